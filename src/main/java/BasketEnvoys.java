import java.util.Arrays;

/** A town sends its mute as envoys; each shows the things of his basket, one a day. README.md tells more. */
public final class BasketEnvoys {
    public static final int NONE = -1;

    // Beside NONE: an answer for what there is not, and a MEANING that was not heard.
    private static final int NO_SUCH = NONE - 1;
    private static final int NOT_HEARD = NONE - 1;
    private static final int NO_TABLE = NONE - 99;

    private static final int POWERS = 10;
    private static final int MUTES = 14;
    private static final int THINGS = 12;
    private static final int MEANINGS = 16;
    private static final int BASKET = 8;
    private static final int WANTED = 6;
    private static final int TRUST_MOST = 99;
    private static final int PORTS_MOST = 99;
    private static final int SKILL_MOST = 9;
    private static final int GRIEF_MOST = 9;
    private static final int LAST_DAY = 9999;
    private static final int DAYS_MOST = 60;
    private static final int UNDOS = 6;
    private static final int CHANCES = 1000;
    private static final int FALLS_IN_THOUGHT = 500;
    private static final int MODULUS = 1000000007;

    // What is done by hand, in the order of act().
    private static final int ACT_SEND = 0;
    private static final int ACT_HOME = 1;
    private static final int ACT_PUT = 2;
    private static final int ACT_EMPTY = 3;
    private static final int ACT_PRICK = 4;

    // The lines of THE BOOK.
    private static final int BOOK_LINES = 150;
    private static final int BOOK_WIDTH = 4;
    private static final int WAS_SENT = 0;
    private static final int WAS_NODDED = 1;
    private static final int WAS_NOT_NODDED = 2;
    private static final int WAS_TREATY = 3;
    private static final int WAS_CRY = 4;
    private static final int WAS_HOME = 5;
    private static final int WAS_PRICKED = 6;

    // The texts and their faults.
    private static final int THE_LAW = 0;
    private static final int TONGUES = 1;
    private static final int COURT = 2;
    private static final int WANTS = 3;
    private static final int TEXTS = 4;
    private static final int TAPE_LENGTH = 400;
    private static final int LINES = 16;
    private static final int NESTED = 8;
    private static final int DIGITS = 4;
    private static final int NUMBER_MOST = 9999;
    private static final int COURT_DAYS = 999;
    private static final int COURT_WIDTH = 4;
    private static final int ROW_WIDTH = 8;
    private static final int OUT_OF_PLACE = 1;
    private static final int OUT_OF_BOUNDS = 2;
    private static final int TOO_MANY = 3;

    // The keywords of each text; a keyword's place in its list is its number below.
    private static final String LAW_WORDS =
        "nods cries wins when or and not skill grief false trust thing says step shown ports day";
    private static final String TONGUES_WORDS = "power thing says";
    private static final String COURT_WORDS = "on send home gift mourn";
    private static final String WANTS_WORDS = "power wants";
    private static final int NODS = 0;
    private static final int CRIES = 1;
    private static final int WINS = 2;
    private static final int WHEN = 3;
    private static final int OR = 4;
    private static final int AND = 5;
    private static final int NOT = 6;
    private static final int FIRST_FACT = 7;
    private static final int LAST_FACT = 16;
    private static final int LINE_START = 0;
    private static final int TONGUES_THING = 1;
    private static final int TONGUES_SAYS = 2;
    private static final int COURT_SEND = 1;
    private static final int COURT_HOME = 2;
    private static final int COURT_GIFT = 3;
    private static final int COURT_MOURN = 4;
    private static final int WANTS_WANTS = 1;

    // The facts that THE LAW can name, in the order of their keywords.
    private static final int FACTS = 10;
    private static final int SKILL = 0;
    private static final int GRIEF = 1;
    private static final int FALSE = 2;
    private static final int TRUST = 3;
    private static final int THING = 4;
    private static final int SAYS = 5;
    private static final int STEP = 6;
    private static final int SHOWN = 7;
    private static final int PORTS = 8;
    private static final int DAY = 9;

    // THE LAW is kept behind-first (operands, then what joins them): below FACTS a fact,
    // from NUMBERS on a number, between them what is done with what lies on the stack.
    private static final int DO_ADD = 10;
    private static final int DO_SUBTRACT = 11;
    private static final int DO_MULTIPLY = 12;
    private static final int DO_DIVIDE = 13;
    private static final int DO_LESS = 14;
    private static final int DO_EQUAL = 15;
    private static final int DO_MORE = 16;
    private static final int DO_AND = 17;
    private static final int DO_OR = 18;
    private static final int DO_NOT = 19;
    private static final int NUMBERS = 32;
    private static final int STACK = 32;

    // Kinds of tokens.
    private static final int TOKEN_BLANK = 0;
    private static final int TOKEN_WORD = 1;
    private static final int TOKEN_NUMBER = 2;
    private static final int TOKEN_SIGN = 3;
    private static final int TOKEN_WRONG = 4;
    private static final int TOKEN_END = 5;

    // What is told for thought.
    private static final int WEIGHT_MOST = 99;
    private static final int ROW_MOST = 8;
    private static final int COUNT_MOST = 99;
    private static final int CHILDREN_MOST = 20;
    private static final int SIDE = 3;
    private static final int CELLS = 9;
    private static final int CELL_MOST = 9;
    private static final int OFFERS_MOST = 12;
    private static final int CHANCE_PARTS = 27720;
    private static final int SENT_MOST = 6;
    private static final int LOADS = 10;
    private static final int LOAD_WEIGHT_MOST = 30;
    private static final int CARRIED_MOST = 200;
    private static final int PROMISES = 12;
    private static final int WIDOWS = 8;
    private static final int SETS = 256;
    private static final int BORDERS = 14;
    private static final int LANDS = 8;
    private static final int COLOURS = 5;
    private static final int CLOTHS = 12;
    private static final int CLOTH_MOST = 9;
    private static final int INTERPRETERS = 6;
    private static final int WORDS = 5;
    private static final int ROUNDS_MOST = 60;
    private static final int HEAP_MOST = 7;
    private static final int HEAPS = 3;
    private static final int PASS = 300;

    private final World now = new World();
    private final World imaged = new World();
    private boolean imageTaken = false;
    private final Town thought = new Town();
    private final History history = new History();
    private final Reader reader = new Reader();
    private final Course course = new Course(now);
    private final Riddles riddles = new Riddles(now);

    /** A town without envoys, and no powers. */
    public BasketEnvoys() {
    }

    public int state(int v) {
        int was = now.town.draws;
        now.town.draws = v;
        history.forget();
        return was;
    }

    public int power(int trust) {
        if (!within(trust, 0, TRUST_MOST) || now.town.powers >= POWERS) {
            return NONE;
        }
        history.forget();
        return now.town.addPower(trust);
    }

    public int mute(int skill, int grief, boolean isFalse) {
        boolean canBe = within(skill, 0, SKILL_MOST) && within(grief, 0, GRIEF_MOST);
        if (!canBe || now.town.mutes >= MUTES) {
            return NONE;
        }
        history.forget();
        return now.town.addMute(skill, grief, isFalse);
    }

    public boolean set(int what, int who, int v) {
        boolean done = now.town.change(what, who, v);
        if (done) {
            history.forget();
        }
        return done;
    }

    public boolean act(int what, int who, int v) {
        if (!now.town.allows(what, who, v)) {
            return false;
        }
        history.keep(now.town);
        course.doByHand(what, who, v);
        return true;
    }

    public int days(int n) {
        if (!within(n, 1, DAYS_MOST) || now.town.day + n > LAST_DAY) {
            return NONE;
        }
        int before = sum(now.town.nods);
        for (int i = 0; i < n; i++) {
            history.keep(now.town);
            course.pass(now.town, true);
        }
        return sum(now.town.nods) - before;
    }

    public int feed(int a, int b, int c, int d, int e) {
        if (!reader.tokens.hasRoom()) {
            return NONE;
        }
        reader.tokens.addBytes(a);
        reader.tokens.addBytes(b);
        reader.tokens.addBytes(c);
        reader.tokens.addBytes(d);
        reader.tokens.addBytes(e);
        return reader.tokens.length;
    }

    public boolean end(int n) {
        if (!within(n, 0, reader.tokens.length)) {
            return false;
        }
        reader.tokens.length = n;
        return true;
    }

    public int text(int k) {
        int lines = k == THE_LAW ? reader.readLaw() : reader.readRows(k, now.town);
        reader.tokens.length = 0;
        if (lines == NONE) {
            return NONE;
        }
        if (k == THE_LAW) {
            now.law.copyFrom(reader.draft);
        } else {
            now.tell(k, reader.rows, lines);
            history.forget();
        }
        return lines;
    }

    public int fault(int what) {
        switch (what) {
            case 0: return reader.tokens.fault;
            case 1: return reader.tokens.faultPlace;
            default: return NONE;
        }
    }

    public int of(int mute, int what) {
        Town town = now.town;
        if (!town.hasMute(mute)) {
            return NO_SUCH;
        }
        switch (what) {
            case 0: return town.skill[mute];
            case 1: return town.grief[mute];
            case 2: return town.isFalse[mute];
            case 3: return town.at[mute];
            case 4: return town.known[mute];
            case 5: return town.carries[mute];
            case 6: return town.shown[mute];
            case 7: return course.ask(town, mute, CRIES);
            case 8: return couldShow(mute) ? course.ask(town, mute, NODS) : NONE;
            case 9: return couldShow(mute) ? course.ask(town, mute, WINS) : NONE;
            default: return within(what, 10, 9 + BASKET) ? town.thingOf(mute, what - 10) : NO_SUCH;
        }
    }

    public int powerOf(int power, int what) {
        Town town = now.town;
        if (!town.hasPower(power)) {
            return NO_SUCH;
        }
        switch (what) {
            case 0: return town.trust[power];
            case 1: return town.step[power];
            case 2: return town.nods[power];
            case 3: return town.treaties[power];
            case 4: return now.wantedBy(power);
            case 5: return town.whoIsAt(power);
            default: break;
        }
        if (within(what, 10, 9 + WANTED)) {
            return now.wantAt(power, what - 10);
        }
        return within(what, 100, 99 + THINGS) ? now.saysTo(power, what - 100) : NO_SUCH;
    }

    public int book(int i, int what) {
        if (!within(i, 0, now.town.bookLines - 1) || !within(what, 0, BOOK_WIDTH - 1)) {
            return NONE;
        }
        return entry(now.book, BOOK_WIDTH * i + what);
    }

    public int goes(int n, int what) {
        if (!within(n, 1, DAYS_MOST) || !within(what, 0, 3)) {
            return NONE;
        }
        thought.copyFrom(now.town);
        for (int i = 0; i < n; i++) {
            course.pass(thought, false);
        }
        switch (what) {
            case 0: return sum(thought.nods);
            case 1: return sum(thought.treaties);
            case 2: return thought.ports;
            default: return sum(thought.trust);
        }
    }

    public int peace(int power) {
        if (!now.town.hasPower(power)) {
            return NONE;
        }
        thought.copyFrom(now.town);
        for (int i = 1; i <= DAYS_MOST; i++) {
            course.pass(thought, false);
            if (thought.treaties[power] > now.town.treaties[power]) {
                return i;
            }
        }
        return NONE;
    }

    public int shows(int thing) {
        return now.told.things.tell(thing, within(thing, 0, THINGS - 1));
    }

    public int alike(int power) {
        return now.town.hasPower(power) ? riddles.whoReadsAs(power) : NONE;
    }

    public boolean weighs(int thing, int v) {
        return put(now.told.weights, thing, v, within(v, 0, WEIGHT_MOST));
    }

    public int lightest(int power, int what) {
        if (!now.town.hasPower(power)) {
            return NONE;
        }
        switch (what) {
            case 0: return riddles.leastWeight(power);
            case 1: return riddles.rowsOfWants(power);
            default: return NONE;
        }
    }

    public int hears(int meaning) {
        boolean canBe = meaning == NOT_HEARD || within(meaning, 0, MEANINGS - 1);
        return now.told.meanings.tell(meaning, canBe);
    }

    public int heard(int power, int what) {
        if (!now.town.hasPower(power)) {
            return NONE;
        }
        switch (what) {
            case 0: return riddles.rowsHeard(power);
            case 1: return riddles.isHeardSo(power) ? 1 : 0;
            default: return NONE;
        }
    }

    public int count(int v) {
        return now.told.counts.tell(v, within(v, 1, COUNT_MOST));
    }

    public int signs() {
        return riddles.leastSigns();
    }

    public int pins(int n, int e) {
        if (!within(n, 1, CHILDREN_MOST) || !within(e, 0, 1)) {
            return NONE;
        }
        return riddles.fewestPricks(n, e);
    }

    public boolean table(int which, int cell, int v) {
        boolean canBe = within(v, -CELL_MOST, CELL_MOST);
        switch (which) {
            case 0: return put(now.told.firstTable, cell, v, canBe);
            case 1: return put(now.told.secondTable, cell, v, canBe);
            default: return false;
        }
    }

    public int tables(int what) {
        switch (what) {
            case 0: return riddles.restingCells();
            case 1: return riddles.firstRest();
            case 2: return riddles.leads();
            default: return NO_TABLE;
        }
    }

    public int stand(int n, int k, int what) {
        if (!within(n, 1, OFFERS_MOST) || !within(what, 0, 2)) {
            return NONE;
        }
        if (what == 2) {
            return riddles.bestStand(n);
        }
        if (!within(k, 0, n - 1)) {
            return NONE;
        }
        int above = riddles.standChance(k, n);
        int below = n * CHANCE_PARTS;
        int common = riddles.commonPart(above, below);
        return (what == 0 ? above : below) / Math.max(1, common);
    }

    public boolean worth(int a, int b, int v) {
        boolean canBe = within(a, 0, SENT_MOST - 1) && within(b, 0, SENT_MOST - 1);
        return canBe && put(now.told.worths, SENT_MOST * a + b, v, within(v, 0, WEIGHT_MOST));
    }

    public int sent(int n, int what) {
        if (!within(n, 1, SENT_MOST)) {
            return NONE;
        }
        switch (what) {
            case 0: return riddles.mostSent(n);
            case 1: return riddles.howSent(n);
            default: return NONE;
        }
    }

    public int load(int weight, int worth) {
        boolean canBe = within(weight, 1, LOAD_WEIGHT_MOST) && within(worth, 0, WEIGHT_MOST);
        return weight == NONE ? now.told.loads.empty() : now.told.loads.add(100 * weight + worth, canBe);
    }

    public int carried(int w, int what) {
        if (!within(w, 0, CARRIED_MOST) || !within(what, 0, 1)) {
            return NONE;
        }
        int set = riddles.bestLoad(w);
        return what == 0 ? riddles.worthOf(set) : set;
    }

    public int promise(int a, int b, int how) {
        boolean canBe = within(a, 0, 7) && within(b, 0, 7) && a != b && within(how, 0, 3);
        return a == NONE ? now.told.promises.empty() : now.told.promises.add(64 * how + 8 * b + a, canBe);
    }

    public int kept(int what) {
        switch (what) {
            case 0: return riddles.waysKept();
            case 1: return riddles.leastKept();
            case 2: return riddles.surelyKept();
            default: return NONE;
        }
    }

    public boolean hat(int widow, int hats) {
        return put(now.told.hats, widow, hats, within(hats, 0, SETS - 1));
    }

    public int hats(int n) {
        return within(n, 1, WIDOWS) ? riddles.waysOfHats(n) : NONE;
    }

    public int border(int a, int b) {
        boolean canBe = within(a, 0, LANDS - 1) && within(b, 0, LANDS - 1) && a != b;
        return a == NONE ? now.told.borders.empty() : now.told.borders.add(LANDS * a + b, canBe);
    }

    public int map(int k) {
        if (k == NONE) {
            return riddles.fewestColours();
        }
        return within(k, 0, COLOURS) ? riddles.waysPainted(k) : NONE;
    }

    public int cloth(int row, int v) {
        boolean canBe = within(v, 0, CLOTH_MOST);
        switch (row) {
            case 0: return now.told.firstCloths.tell(v, canBe);
            case 1: return now.told.secondCloths.tell(v, canBe);
            default: return NONE;
        }
    }

    public int cloths(int what) {
        switch (what) {
            case 0: return riddles.mostAlike();
            case 1: return now.told.firstCloths.size + now.told.secondCloths.size - riddles.mostAlike();
            case 2: return riddles.fewestChanges();
            default: return NONE;
        }
    }

    public int interpreter(int row) {
        return now.told.interpreters.tell(row, riddles.hasEachWordOnce(row));
    }

    public int word(int w) {
        if (w == NONE) {
            return riddles.roundsOfWords();
        }
        return within(w, 0, WORDS - 1) ? riddles.becomes(w) : NONE;
    }

    public int silence(int a, int b, int c, boolean pass) {
        boolean canBe = within(a, 0, HEAP_MOST) && within(b, 0, HEAP_MOST) && within(c, 0, HEAP_MOST);
        return canBe ? riddles.beginning(a, b, c, pass) : NONE;
    }

    public boolean undo() {
        return history.giveBack(now.town);
    }

    public boolean image(boolean taken) {
        if (taken) {
            imaged.copyFrom(now);
            imageTaken = true;
            return true;
        }
        if (!imageTaken) {
            return false;
        }
        now.copyFrom(imaged);
        history.forget();
        return true;
    }

    public int look(int what) {
        Town town = now.town;
        switch (what) {
            case 0: return town.powers;
            case 1: return town.mutes;
            case 2: return town.ports;
            case 3: return town.lost;
            case 4: return town.day;
            case 5: return town.whoIsAway();
            case 6: return town.whoIsKnown();
            case 7: return town.bookLines;
            case 8: return town.draws;
            case 9: return now.law.lines;
            case 10: return now.lines[TONGUES];
            case 11: return now.lines[COURT];
            case 12: return now.lines[WANTS];
            case 13: return history.size;
            default: return NONE;
        }
    }

    private boolean couldShow(int mute) {
        return now.town.isAway(mute) && now.town.nextThing(mute) != NONE;
    }

    private static boolean within(int v, int least, int most) {
        return v >= least && v <= most;
    }

    private static int sum(int[] numbers) {
        int all = 0;
        for (int i = 0; i < numbers.length; i++) {
            all += numbers[i];
        }
        return all;
    }

    private static boolean put(int[] numbers, int i, int v, boolean canBe) {
        if (!canBe || i < 0 || i >= numbers.length) {
            return false;
        }
        numbers[i] = v;
        return true;
    }

    private static int entry(int[] numbers, int i) {
        return i >= 0 && i < numbers.length ? numbers[i] : 0;
    }

    private static void copy(int[] from, int[] to) {
        System.arraycopy(from, 0, to, 0, Math.min(from.length, to.length));
    }

    /** What days and hands change, all that UNDO gives back; THE BOOK only grows, so its length is enough. */
    private static final class Town {
        int powers = 0;
        int mutes = 0;
        int ports = 10;
        int lost = 0;
        int day = 0;
        int draws = 0;
        int bookLines = 0;
        final int[] trust = new int[POWERS];
        final int[] step = new int[POWERS];
        final int[] nods = new int[POWERS];
        final int[] treaties = new int[POWERS];
        final int[] skill = new int[MUTES];
        final int[] grief = new int[MUTES];
        final int[] isFalse = new int[MUTES];
        final int[] at = new int[MUTES];
        final int[] known = new int[MUTES];
        final int[] carries = new int[MUTES];
        final int[] shown = new int[MUTES];
        final int[] baskets = new int[MUTES * BASKET];

        void copyFrom(Town other) {
            powers = other.powers;
            mutes = other.mutes;
            ports = other.ports;
            lost = other.lost;
            day = other.day;
            draws = other.draws;
            bookLines = other.bookLines;
            copy(other.trust, trust);
            copy(other.step, step);
            copy(other.nods, nods);
            copy(other.treaties, treaties);
            copy(other.skill, skill);
            copy(other.grief, grief);
            copy(other.isFalse, isFalse);
            copy(other.at, at);
            copy(other.known, known);
            copy(other.carries, carries);
            copy(other.shown, shown);
            copy(other.baskets, baskets);
        }

        int addPower(int firstTrust) {
            if (powers >= POWERS) {
                return NONE;
            }
            trust[powers] = firstTrust;
            step[powers] = 0;
            nods[powers] = 0;
            treaties[powers] = 0;
            powers++;
            return powers - 1;
        }

        int addMute(int hisSkill, int hisGrief, boolean canCry) {
            if (mutes >= MUTES) {
                return NONE;
            }
            skill[mutes] = hisSkill;
            grief[mutes] = hisGrief;
            isFalse[mutes] = canCry ? 1 : 0;
            at[mutes] = NONE;
            known[mutes] = 0;
            carries[mutes] = 0;
            shown[mutes] = 0;
            mutes++;
            return mutes - 1;
        }

        boolean change(int what, int who, int v) {
            switch (what) {
                case 0: return hasPower(who) && put(trust, who, v, within(v, 0, TRUST_MOST));
                case 1: return hasMute(who) && put(skill, who, v, within(v, 0, SKILL_MOST));
                case 2: return hasMute(who) && put(grief, who, v, within(v, 0, GRIEF_MOST));
                case 3: return hasMute(who) && put(isFalse, who, v, within(v, 0, 1));
                case 4: break;
                default: return false;
            }
            if (!within(v, 0, PORTS_MOST)) {
                return false;
            }
            ports = v;
            return true;
        }

        boolean allows(int what, int who, int v) {
            switch (what) {
                case ACT_SEND: return isHome(who) && hasPower(v);
                case ACT_HOME: return isAway(who);
                case ACT_PUT: return isHome(who) && carries[who] < BASKET && within(v, 0, THINGS - 1);
                case ACT_EMPTY: return isHome(who) && carries[who] > 0;
                case ACT_PRICK: return isHome(who);
                default: return false;
            }
        }

        boolean hasPower(int power) {
            return power >= 0 && power < powers && power < POWERS;
        }

        boolean hasMute(int mute) {
            return mute >= 0 && mute < mutes && mute < MUTES;
        }

        boolean isHome(int mute) {
            return hasMute(mute) && at[mute] == NONE;
        }

        boolean isAway(int mute) {
            return hasMute(mute) && at[mute] != NONE;
        }

        int whoIsAt(int power) {
            int who = 0;
            for (int m = 0; m < mutes; m++) {
                who |= entry(at, m) == power ? 1 << m : 0;
            }
            return who;
        }

        int whoIsAway() {
            int who = 0;
            for (int m = 0; m < mutes; m++) {
                who |= isAway(m) ? 1 << m : 0;
            }
            return who;
        }

        int whoIsKnown() {
            int who = 0;
            for (int m = 0; m < mutes; m++) {
                who |= entry(known, m) != 0 ? 1 << m : 0;
            }
            return who;
        }

        int thingOf(int mute, int i) {
            boolean isThere = hasMute(mute) && within(i, 0, BASKET - 1) && i < carries[mute];
            return isThere ? baskets[BASKET * mute + i] : NONE;
        }

        int nextThing(int mute) {
            return hasMute(mute) ? thingOf(mute, shown[mute]) : NONE;
        }

        void putThing(int mute, int thing) {
            if (hasMute(mute) && within(carries[mute], 0, BASKET - 1)) {
                baskets[BASKET * mute + carries[mute]] = thing;
                carries[mute]++;
            }
        }

        boolean drawsBelow(int chance) {
            draws = 1664525 * draws + 1013904223;
            return (draws >>> 8) % CHANCES < chance;
        }
    }

    /** A told row with a limit. */
    private static final class Row {
        int size = 0;
        private final int[] cells;

        Row(int most) {
            cells = new int[Math.max(0, most)];
        }

        int tell(int v, boolean canBe) {
            return v == NONE ? empty() : add(v, canBe);
        }

        int empty() {
            size = 0;
            return 0;
        }

        int add(int v, boolean canBe) {
            if (!canBe || size >= cells.length) {
                return NONE;
            }
            cells[size] = v;
            size++;
            return size;
        }

        int get(int i) {
            return i >= 0 && i < size && i < cells.length ? cells[i] : 0;
        }

        void copyFrom(Row other) {
            size = other.size;
            copy(other.cells, cells);
        }
    }

    /** All that is told for thought. */
    private static final class Told {
        final Row things = new Row(ROW_MOST);
        final Row meanings = new Row(ROW_MOST);
        final Row counts = new Row(ROW_MOST);
        final Row loads = new Row(LOADS);
        final Row promises = new Row(PROMISES);
        final Row borders = new Row(BORDERS);
        final Row firstCloths = new Row(CLOTHS);
        final Row secondCloths = new Row(CLOTHS);
        final Row interpreters = new Row(INTERPRETERS);
        final int[] weights = new int[THINGS];
        final int[] firstTable = new int[CELLS];
        final int[] secondTable = new int[CELLS];
        final int[] worths = new int[SENT_MOST * SENT_MOST];
        final int[] hats = new int[WIDOWS];

        void copyFrom(Told other) {
            things.copyFrom(other.things);
            meanings.copyFrom(other.meanings);
            counts.copyFrom(other.counts);
            loads.copyFrom(other.loads);
            promises.copyFrom(other.promises);
            borders.copyFrom(other.borders);
            firstCloths.copyFrom(other.firstCloths);
            secondCloths.copyFrom(other.secondCloths);
            interpreters.copyFrom(other.interpreters);
            copy(other.weights, weights);
            copy(other.firstTable, firstTable);
            copy(other.secondTable, secondTable);
            copy(other.worths, worths);
            copy(other.hats, hats);
        }
    }

    /** THE LAW as it was read. */
    private static final class Law {
        int lines = 0;
        private int length = 0;
        private final int[] word = new int[LINES];
        private final int[] from = new int[LINES];
        private final int[] when = new int[LINES];
        private final int[] to = new int[LINES];
        private final int[] code = new int[TAPE_LENGTH];
        private final int[] stack = new int[STACK];

        void clear() {
            lines = 0;
            length = 0;
        }

        void copyFrom(Law other) {
            lines = other.lines;
            length = other.length;
            copy(other.word, word);
            copy(other.from, from);
            copy(other.when, when);
            copy(other.to, to);
            copy(other.code, code);
        }

        void emit(int op) {
            if (length < code.length) {
                code[length] = op;
                length++;
            }
        }

        int here() {
            return length;
        }

        void addLine(int itsWord, int itsFrom, int itsWhen) {
            if (lines < LINES) {
                word[lines] = itsWord;
                from[lines] = itsFrom;
                when[lines] = itsWhen;
                to[lines] = length;
                lines++;
            }
        }

        /** E of the first line for the word whose B is so; without one what is told otherwise. */
        int tell(int asked, int[] facts, int otherwise) {
            for (int i = 0; i < lines && i < LINES; i++) {
                if (word[i] == asked) {
                    if (when[i] == NONE) {
                        return run(from[i], to[i], facts);
                    }
                    if (run(when[i], to[i], facts) != 0) {
                        return run(from[i], when[i], facts);
                    }
                }
            }
            return otherwise;
        }

        private int run(int start, int stop, int[] facts) {
            int top = 0;
            for (int i = Math.max(0, start); i < stop && i < length; i++) {
                int op = code[i];
                boolean isValue = op >= NUMBERS || op < FACTS;
                if (isValue && top < STACK) {
                    stack[top] = op >= NUMBERS ? op - NUMBERS : entry(facts, op);
                    top++;
                } else if (op == DO_NOT && top > 0) {
                    stack[top - 1] = 1 - stack[top - 1];
                } else if (top > 1) {
                    top--;
                    stack[top - 1] = join(op, stack[top - 1], stack[top]);
                }
            }
            return top > 0 ? stack[top - 1] : 0;
        }

        private static int join(int op, int a, int b) {
            switch (op) {
                case DO_ADD: return a + b;
                case DO_SUBTRACT: return a - b;
                case DO_MULTIPLY: return a * b;
                case DO_DIVIDE: return b == 0 ? 0 : a / b;
                case DO_LESS: return a < b ? 1 : 0;
                case DO_EQUAL: return a == b ? 1 : 0;
                case DO_MORE: return a > b ? 1 : 0;
                case DO_AND: return a & b;
                case DO_OR: return a | b;
                default: return 0;
            }
        }
    }

    /** All that is and was told, and so all of THE IMAGE. */
    private static final class World {
        final Town town = new Town();
        final Told told = new Told();
        final Law law = new Law();
        final int[] book = new int[BOOK_LINES * BOOK_WIDTH];
        final int[] lines = new int[TEXTS];
        private final int[] says = new int[POWERS * THINGS];
        private final int[] court = new int[LINES * COURT_WIDTH];
        private final int[] wants = new int[POWERS * WANTED];
        private final int[] wanted = new int[POWERS];

        World() {
            letThingsSayThemselves();
        }

        void copyFrom(World other) {
            town.copyFrom(other.town);
            told.copyFrom(other.told);
            law.copyFrom(other.law);
            copy(other.book, book);
            copy(other.lines, lines);
            copy(other.says, says);
            copy(other.court, court);
            copy(other.wants, wants);
            copy(other.wanted, wanted);
        }

        private void letThingsSayThemselves() {
            for (int i = 0; i < says.length; i++) {
                says[i] = i % THINGS;
            }
        }

        void tell(int k, int[] rows, int count) {
            switch (k) {
                case TONGUES:
                    tellTongues(rows, count);
                    break;
                case COURT:
                    tellCourt(rows, count);
                    break;
                case WANTS:
                    tellWants(rows, count);
                    break;
                default:
                    return;
            }
            lines[k] = count;
        }

        private void tellTongues(int[] rows, int count) {
            letThingsSayThemselves();
            for (int i = 0; i < count; i++) {
                int thing = entry(rows, ROW_WIDTH * i + 1);
                int power = entry(rows, ROW_WIDTH * i);
                put(says, THINGS * power + thing, entry(rows, ROW_WIDTH * i + 2), true);
            }
        }

        private void tellCourt(int[] rows, int count) {
            for (int i = 0; i < count; i++) {
                for (int j = 0; j < COURT_WIDTH; j++) {
                    put(court, COURT_WIDTH * i + j, entry(rows, ROW_WIDTH * i + j), true);
                }
            }
        }

        private void tellWants(int[] rows, int count) {
            Arrays.fill(wanted, 0);
            Arrays.fill(town.step, 0);
            for (int i = 0; i < count; i++) {
                int power = entry(rows, ROW_WIDTH * i);
                put(wanted, power, entry(rows, ROW_WIDTH * i + 1), true);
                for (int j = 0; j < WANTED; j++) {
                    put(wants, WANTED * power + j, entry(rows, ROW_WIDTH * i + 2 + j), true);
                }
            }
        }

        int saysTo(int power, int thing) {
            return entry(says, THINGS * power + thing);
        }

        int wantedBy(int power) {
            return entry(wanted, power);
        }

        int wantAt(int power, int i) {
            return i >= 0 && i < entry(wanted, power) ? entry(wants, WANTED * power + i) : NONE;
        }

        int courtAt(int line, int what) {
            return entry(court, COURT_WIDTH * line + what);
        }

        void write(int what, int who, int howMuch) {
            int i = BOOK_WIDTH * town.bookLines;
            if (town.bookLines < BOOK_LINES && i >= 0 && i + 3 < book.length) {
                book[i] = town.day;
                book[i + 1] = what;
                book[i + 2] = who;
                book[i + 3] = howMuch;
                town.bookLines++;
            }
        }
    }

    /** The towns as they were before the latest things that can be undone; the oldest gives way. */
    private static final class History {
        int size = 0;
        private int next = 0;
        private final Town[] towns = new Town[UNDOS];

        History() {
            for (int i = 0; i < UNDOS; i++) {
                towns[i] = new Town();
            }
        }

        void keep(Town town) {
            Town kept = townAt(next);
            if (kept != null) {
                kept.copyFrom(town);
                next = (next + 1) % UNDOS;
                size = Math.min(UNDOS, size + 1);
            }
        }

        boolean giveBack(Town town) {
            if (size <= 0) {
                return false;
            }
            size--;
            next = (next + UNDOS - 1) % UNDOS;
            Town kept = townAt(next);
            if (kept != null) {
                town.copyFrom(kept);
            }
            return true;
        }

        void forget() {
            size = 0;
        }

        private Town townAt(int i) {
            return i >= 0 && i < towns.length ? towns[i] : null;
        }
    }

    /** How a day goes, and what is done by hand; in thought (not real) nothing is drawn or written. */
    private static final class Course {
        private final World world;
        private final int[] facts = new int[FACTS];

        Course(World world) {
            this.world = world;
        }

        void doByHand(int what, int who, int v) {
            Town town = world.town;
            switch (what) {
                case ACT_SEND:
                    sendTo(town, who, v, true);
                    break;
                case ACT_HOME:
                    goHome(town, who, true);
                    break;
                case ACT_PUT:
                    town.putThing(who, v);
                    break;
                case ACT_EMPTY:
                    put(town.carries, who, 0, true);
                    break;
                default:
                    prick(who);
                    break;
            }
        }

        void pass(Town town, boolean real) {
            for (int i = 0; i < world.lines[COURT]; i++) {
                if (world.courtAt(i, 0) == town.day) {
                    follow(town, i, real);
                }
            }
            for (int m = 0; m < town.mutes; m++) {
                if (town.isAway(m)) {
                    takeTurn(town, m, real);
                }
            }
            town.day++;
        }

        private void follow(Town town, int line, boolean real) {
            int who = world.courtAt(line, 2);
            int v = world.courtAt(line, 3);
            switch (world.courtAt(line, 1)) {
                case COURT_SEND:
                    sendTo(town, who, v, real);
                    break;
                case COURT_HOME:
                    goHome(town, who, real);
                    break;
                case COURT_GIFT:
                    addTrust(town, who, v);
                    break;
                case COURT_MOURN:
                    put(town.grief, who, v, true);
                    break;
                default:
                    break;
            }
        }

        private void sendTo(Town town, int mute, int power, boolean real) {
            if (town.isHome(mute)) {
                town.at[mute] = power;
                town.shown[mute] = 0;
                if (real) {
                    world.write(WAS_SENT, mute, power);
                }
            }
        }

        private void goHome(Town town, int mute, boolean real) {
            if (town.isAway(mute)) {
                town.at[mute] = NONE;
                if (real) {
                    world.write(WAS_HOME, mute, town.shown[mute]);
                }
            }
        }

        private void addTrust(Town town, int power, int more) {
            if (town.hasPower(power)) {
                town.trust[power] = Math.min(TRUST_MOST, town.trust[power] + more);
            }
        }

        private void prick(int mute) {
            Town town = world.town;
            boolean cried = falls(town, ask(town, mute, CRIES), true);
            if (cried) {
                put(town.known, mute, 1, true);
            }
            world.write(WAS_PRICKED, mute, cried ? 1 : 0);
        }

        private void takeTurn(Town town, int mute, boolean real) {
            if (falls(town, ask(town, mute, CRIES), real)) {
                cryOut(town, mute, real);
            } else if (town.nextThing(mute) == NONE) {
                goHome(town, mute, real);
            } else {
                showThing(town, mute, real);
            }
        }

        private boolean falls(Town town, int chance, boolean real) {
            if (!real) {
                return chance >= FALLS_IN_THOUGHT;
            }
            return chance > 0 && town.drawsBelow(chance);
        }

        private void cryOut(Town town, int mute, boolean real) {
            int power = entry(town.at, mute);
            put(town.known, mute, 1, true);
            if (town.ports > 0) {
                town.ports--;
                town.lost++;
            }
            put(town.trust, power, 0, true);
            put(town.step, power, 0, true);
            put(town.at, mute, NONE, true);
            if (real) {
                world.write(WAS_CRY, mute, town.ports);
            }
        }

        private void showThing(Town town, int mute, boolean real) {
            int power = entry(town.at, mute);
            if (!town.hasPower(power) || !town.hasMute(mute)) {
                return;
            }
            int said = world.saysTo(power, town.nextThing(mute));
            if (falls(town, ask(town, mute, NODS), real)) {
                town.nods[power]++;
                addTrust(town, power, ask(town, mute, WINS));
                if (real) {
                    world.write(WAS_NODDED, mute, said);
                }
                readOn(town, mute, said, real);
            } else {
                town.trust[power] = Math.max(0, town.trust[power] - 1);
                if (real) {
                    world.write(WAS_NOT_NODDED, mute, said);
                }
            }
            town.shown[mute]++;
        }

        private void readOn(Town town, int mute, int said, boolean real) {
            int power = entry(town.at, mute);
            if (!town.hasPower(power) || world.wantedBy(power) == 0) {
                return;
            }
            if (said != world.wantAt(power, town.step[power])) {
                town.step[power] = 0;
                return;
            }
            town.step[power]++;
            if (town.step[power] >= world.wantedBy(power)) {
                town.treaties[power]++;
                town.step[power] = 0;
                if (real) {
                    world.write(WAS_TREATY, mute, power);
                }
            }
        }

        /** What THE LAW tells now of a MUTE for a word, held to its bounds. */
        int ask(Town town, int mute, int word) {
            if (!town.hasMute(mute)) {
                return 0;
            }
            gather(town, mute, word == CRIES ? NONE : town.nextThing(mute));
            int otherwise = 1;
            if (word == NODS) {
                otherwise = 60 * facts[SKILL] + 5 * facts[TRUST];
            } else if (word == CRIES) {
                otherwise = facts[FALSE] == 1 ? 50 * facts[GRIEF] : 0;
            }
            int told = world.law.tell(word, facts, otherwise);
            return Math.max(0, Math.min(word == WINS ? TRUST_MOST : CHANCES, told));
        }

        private void gather(Town town, int mute, int thing) {
            int power = entry(town.at, mute);
            boolean isAway = town.hasPower(power);
            facts[SKILL] = entry(town.skill, mute);
            facts[GRIEF] = entry(town.grief, mute);
            facts[FALSE] = entry(town.isFalse, mute);
            facts[TRUST] = isAway ? entry(town.trust, power) : 0;
            facts[THING] = Math.max(0, thing);
            facts[SAYS] = isAway && thing != NONE ? world.saysTo(power, thing) : 0;
            facts[STEP] = isAway ? entry(town.step, power) : 0;
            facts[SHOWN] = entry(town.shown, mute);
            facts[PORTS] = town.ports;
            facts[DAY] = town.day;
        }
    }

    /** THE TAPE, its tokens, and the first fault that was found in them. */
    private static final class Tokens {
        int length = 0;
        int fault = 0;
        int faultPlace = NONE;
        private int count = 0;
        private int next = 0;
        private int kindHere = TOKEN_END;
        private int valueHere = 0;
        private int placeHere = 0;
        private final char[] tape = new char[TAPE_LENGTH];
        // One more than the tape can hold: the end is a token, too.
        private final int[] kind = new int[TAPE_LENGTH + 1];
        private final int[] place = new int[TAPE_LENGTH + 1];
        private final int[] width = new int[TAPE_LENGTH + 1];
        private final int[] value = new int[TAPE_LENGTH + 1];

        boolean hasRoom() {
            return length + 20 <= TAPE_LENGTH;
        }

        void addBytes(int number) {
            if (length >= 0 && length + 4 <= TAPE_LENGTH) {
                tape[length] = (char) (number >>> 24);
                tape[length + 1] = (char) (number >>> 16 & 255);
                tape[length + 2] = (char) (number >>> 8 & 255);
                tape[length + 3] = (char) (number & 255);
                length += 4;
            }
        }

        void clearFault() {
            fault = 0;
            faultPlace = NONE;
        }

        void scan(String words) {
            clearFault();
            count = 0;
            next = NONE;
            int last = TOKEN_BLANK;
            for (int i = 0; i < length && i < TAPE_LENGTH; i++) {
                int now = kindOf(tape[i]);
                boolean canGoOn = now == TOKEN_WORD || now == TOKEN_NUMBER;
                if (canGoOn && now == last && count > 0) {
                    width[count - 1]++;
                } else if (now != TOKEN_BLANK) {
                    add(now, i);
                }
                last = now;
            }
            for (int i = 0; i < count; i++) {
                settle(i, words);
            }
            add(TOKEN_END, length);
            skip();
        }

        private static int kindOf(char sign) {
            if (sign == ' ' || sign == '\n') {
                return TOKEN_BLANK;
            }
            if (sign >= 'a' && sign <= 'z' || sign >= 'A' && sign <= 'Z') {
                return TOKEN_WORD;
            }
            if (sign >= '0' && sign <= '9') {
                return TOKEN_NUMBER;
            }
            return ";+-*/()<=>".indexOf(sign) >= 0 ? TOKEN_SIGN : TOKEN_WRONG;
        }

        private void add(int itsKind, int itsPlace) {
            if (count <= TAPE_LENGTH) {
                kind[count] = itsKind;
                place[count] = itsPlace;
                width[count] = 1;
                value[count] = 0;
                count++;
            }
        }

        private void settle(int i, String words) {
            switch (kind[i]) {
                case TOKEN_WORD:
                    value[i] = numberOfWord(words, place[i], width[i]);
                    kind[i] = value[i] == NONE ? TOKEN_WRONG : TOKEN_WORD;
                    break;
                case TOKEN_NUMBER:
                    value[i] = readNumber(place[i], width[i]);
                    kind[i] = value[i] == NONE ? TOKEN_WRONG : TOKEN_NUMBER;
                    break;
                default:
                    value[i] = signAt(place[i]);
                    break;
            }
        }

        private char signAt(int i) {
            return i >= 0 && i < TAPE_LENGTH ? tape[i] : ' ';
        }

        private int readNumber(int from, int digits) {
            if (digits > DIGITS) {
                return NONE;
            }
            int number = 0;
            for (int i = 0; i < digits; i++) {
                number = 10 * number + signAt(from + i) - '0';
            }
            return number;
        }

        private int numberOfWord(String words, int from, int signs) {
            int number = 0;
            int start = 0;
            for (int i = 0; i <= words.length(); i++) {
                if (i == words.length() || words.charAt(i) == ' ') {
                    if (i - start == signs && isAt(words, start, i, from)) {
                        return number;
                    }
                    number++;
                    start = i + 1;
                }
            }
            return NONE;
        }

        private boolean isAt(String words, int start, int stop, int from) {
            for (int i = Math.max(0, start); i < stop && i < words.length(); i++) {
                if (words.charAt(i) != signAt(from + i - start)) {
                    return false;
                }
            }
            return true;
        }

        /** Keeps the first fault alone: texts are read from left to right, and what comes later does not count. */
        void refuse(int what) {
            if (fault == 0) {
                fault = what;
                faultPlace = placeHere;
            }
        }

        boolean goesOn() {
            return fault == 0 && kindHere != TOKEN_END;
        }

        boolean isWord(int number) {
            return fault == 0 && kindHere == TOKEN_WORD && valueHere == number;
        }

        boolean isNumber() {
            return fault == 0 && kindHere == TOKEN_NUMBER;
        }

        /** The keyword's number; NONE if none stands here. */
        int wordHere() {
            return fault == 0 && kindHere == TOKEN_WORD ? valueHere : NONE;
        }

        int numberHere() {
            return valueHere;
        }

        /** The sign that stands here; a blank if none does. */
        char signHere() {
            return fault == 0 && kindHere == TOKEN_SIGN ? (char) valueHere : ' ';
        }

        void skip() {
            if (fault == 0 && next + 1 < count) {
                next++;
                kindHere = kind[next];
                valueHere = value[next];
                placeHere = place[next];
            }
        }

        void takeWord(int number) {
            if (isWord(number)) {
                skip();
            } else {
                refuse(OUT_OF_PLACE);
            }
        }

        void takeSign(char sign) {
            if (signHere() == sign) {
                skip();
            } else {
                refuse(OUT_OF_PLACE);
            }
        }

        int takeNumber(int least, int most) {
            if (!isNumber()) {
                refuse(OUT_OF_PLACE);
                return 0;
            }
            int number = numberHere();
            if (within(number, least, most)) {
                skip();
            } else {
                refuse(OUT_OF_BOUNDS);
            }
            return number;
        }
    }

    /** Reads a text from the tokens; what it reads is told only when the whole text is without a fault. */
    private static final class Reader {
        final Tokens tokens = new Tokens();
        final Law draft = new Law();
        final int[] rows = new int[LINES * ROW_WIDTH];

        int readLaw() {
            tokens.scan(LAW_WORDS);
            draft.clear();
            for (int i = 0; i <= LINES && tokens.goesOn(); i++) {
                readLawLine(i);
            }
            return tokens.fault == 0 ? draft.lines : NONE;
        }

        private void readLawLine(int line) {
            int word = tokens.wordHere();
            if (!within(word, NODS, WINS)) {
                tokens.refuse(OUT_OF_PLACE);
            } else if (line >= LINES) {
                tokens.refuse(TOO_MANY);
            } else {
                tokens.skip();
                int from = draft.here();
                int when = NONE;
                readSum();
                if (tokens.isWord(WHEN)) {
                    tokens.skip();
                    when = draft.here();
                    readAny(0);
                }
                tokens.takeSign(';');
                draft.addLine(word, from, when);
            }
        }

        // An or waits until the row of ands on its right is read.
        private void readAny(int open) {
            boolean orWaits = false;
            readCondition(open);
            for (int i = 0; i < TAPE_LENGTH && (tokens.isWord(OR) || tokens.isWord(AND)); i++) {
                boolean isAnd = tokens.isWord(AND);
                tokens.skip();
                if (!isAnd && orWaits) {
                    draft.emit(DO_OR);
                }
                readCondition(open);
                if (isAnd) {
                    draft.emit(DO_AND);
                } else {
                    orWaits = true;
                }
            }
            if (orWaits) {
                draft.emit(DO_OR);
            }
        }

        // A row of nots is open until what stands behind it is read: all of them end together.
        private void readCondition(int open) {
            int nots = 0;
            for (int i = open; i < NESTED && tokens.isWord(NOT); i++) {
                tokens.skip();
                nots++;
            }
            boolean opens = tokens.signHere() == '(';
            if (tokens.isWord(NOT) || opens && open + nots >= NESTED) {
                tokens.refuse(TOO_MANY);
            } else if (opens) {
                tokens.skip();
                readAny(open + nots + 1);
                tokens.takeSign(')');
            } else {
                readSum();
                int how = comparisonHere();
                tokens.skip();
                readSum();
                draft.emit(how);
            }
            for (int i = 0; i < nots; i++) {
                draft.emit(DO_NOT);
            }
        }

        private int comparisonHere() {
            char sign = tokens.signHere();
            if (sign == '<') {
                return DO_LESS;
            }
            if (sign == '>') {
                return DO_MORE;
            }
            if (sign != '=') {
                tokens.refuse(OUT_OF_PLACE);
            }
            return DO_EQUAL;
        }

        // A + or - waits until the * and / on its right are read.
        private void readSum() {
            int waits = NONE;
            readUnit();
            for (int i = 0; i < TAPE_LENGTH && "+-*/".indexOf(tokens.signHere()) >= 0; i++) {
                char sign = tokens.signHere();
                tokens.skip();
                if (sign == '*') {
                    readUnit();
                    draft.emit(DO_MULTIPLY);
                } else if (sign == '/') {
                    draft.emit(NUMBERS + tokens.takeNumber(1, NUMBER_MOST));
                    draft.emit(DO_DIVIDE);
                } else {
                    if (waits != NONE) {
                        draft.emit(waits);
                    }
                    waits = sign == '+' ? DO_ADD : DO_SUBTRACT;
                    readUnit();
                }
            }
            if (waits != NONE) {
                draft.emit(waits);
            }
        }

        private void readUnit() {
            int word = tokens.wordHere();
            if (tokens.isNumber()) {
                draft.emit(NUMBERS + tokens.numberHere());
                tokens.skip();
            } else if (within(word, FIRST_FACT, LAST_FACT)) {
                draft.emit(word - FIRST_FACT);
                tokens.skip();
            } else {
                tokens.refuse(OUT_OF_PLACE);
            }
        }

        int readRows(int k, Town town) {
            switch (k) {
                case TONGUES:
                    tokens.scan(TONGUES_WORDS);
                    break;
                case COURT:
                    tokens.scan(COURT_WORDS);
                    break;
                case WANTS:
                    tokens.scan(WANTS_WORDS);
                    break;
                default:
                    tokens.clearFault();
                    return NONE;
            }
            int lines = 0;
            for (int i = 0; i <= LINES && tokens.goesOn(); i++) {
                readRow(k, i, town);
                lines++;
            }
            return tokens.fault == 0 ? lines : NONE;
        }

        private void readRow(int k, int line, Town town) {
            if (!tokens.isWord(LINE_START)) {
                tokens.refuse(OUT_OF_PLACE);
            } else if (line >= LINES) {
                tokens.refuse(TOO_MANY);
            } else {
                tokens.skip();
                int row = ROW_WIDTH * line;
                if (k == TONGUES) {
                    readTongue(row, town);
                } else if (k == COURT) {
                    readCourt(row, town);
                } else {
                    readWants(row, town);
                }
                tokens.takeSign(';');
            }
        }

        private void readTongue(int row, Town town) {
            put(rows, row, tokens.takeNumber(0, town.powers - 1), true);
            tokens.takeWord(TONGUES_THING);
            put(rows, row + 1, tokens.takeNumber(0, THINGS - 1), true);
            tokens.takeWord(TONGUES_SAYS);
            put(rows, row + 2, tokens.takeNumber(0, MEANINGS - 1), true);
        }

        private void readCourt(int row, Town town) {
            put(rows, row, tokens.takeNumber(0, COURT_DAYS), true);
            int kind = tokens.wordHere();
            if (!within(kind, COURT_SEND, COURT_MOURN)) {
                tokens.refuse(OUT_OF_PLACE);
                return;
            }
            tokens.skip();
            put(rows, row + 1, kind, true);
            int whoMost = kind == COURT_GIFT ? town.powers - 1 : town.mutes - 1;
            put(rows, row + 2, tokens.takeNumber(0, whoMost), true);
            switch (kind) {
                case COURT_SEND:
                    put(rows, row + 3, tokens.takeNumber(0, town.powers - 1), true);
                    break;
                case COURT_GIFT:
                    put(rows, row + 3, tokens.takeNumber(1, TRUST_MOST), true);
                    break;
                case COURT_MOURN:
                    put(rows, row + 3, tokens.takeNumber(0, GRIEF_MOST), true);
                    break;
                default:
                    break;
            }
        }

        private void readWants(int row, Town town) {
            put(rows, row, tokens.takeNumber(0, town.powers - 1), true);
            tokens.takeWord(WANTS_WANTS);
            int count = 0;
            for (int i = 0; i <= WANTED && (i == 0 || tokens.isNumber()); i++) {
                // Where a meaning is one too many and beyond its bounds, the bounds come first.
                if (i == WANTED && within(tokens.numberHere(), 0, MEANINGS - 1)) {
                    tokens.refuse(TOO_MANY);
                }
                put(rows, row + 2 + i, tokens.takeNumber(0, MEANINGS - 1), i < WANTED);
                count++;
            }
            put(rows, row + 1, count, true);
        }
    }

    /** What is asked in thought of things told for it; its tables are made once and used again. */
    private static final class Riddles {
        private final World world;
        private final Told told;
        private final int[] bySet = new int[1 << LOADS];
        private final int[] alsoBySet = new int[1 << LOADS];
        private final int[] piles = new int[ROW_MOST];
        private final int[] neighbours = new int[LANDS];
        private final int[] painted = new int[COLOURS];
        private final int[] paintings = new int[COLOURS + 1];
        private final int[] grid = new int[(CLOTHS + 1) * (CLOTHS + 1)];
        private final boolean[] wins = new boolean[1024];
        private boolean winsKnown = false;

        Riddles(World world) {
            this.world = world;
            this.told = world.told;
        }

        int whoReadsAs(int power) {
            int who = 0;
            for (int p = 0; p < world.town.powers; p++) {
                boolean same = true;
                for (int i = 0; i < told.things.size; i++) {
                    int thing = told.things.get(i);
                    same = same && world.saysTo(p, thing) == world.saysTo(power, thing);
                }
                who |= same ? 1 << p : 0;
            }
            return who;
        }

        int leastWeight(int power) {
            int all = 0;
            for (int i = 0; i < world.wantedBy(power); i++) {
                int least = NONE;
                for (int t = 0; t < THINGS; t++) {
                    boolean says = world.saysTo(power, t) == world.wantAt(power, i);
                    if (says && (least == NONE || told.weights[t] < least)) {
                        least = told.weights[t];
                    }
                }
                if (least == NONE) {
                    return NONE;
                }
                all += least;
            }
            return all;
        }

        int rowsOfWants(int power) {
            long rows = 1;
            for (int i = 0; i < world.wantedBy(power); i++) {
                rows = rows * thingsThatSay(power, world.wantAt(power, i)) % MODULUS;
            }
            return (int) rows;
        }

        int rowsHeard(int power) {
            long rows = 1;
            for (int i = 0; i < told.meanings.size; i++) {
                int meaning = told.meanings.get(i);
                int things = meaning == NOT_HEARD ? THINGS : thingsThatSay(power, meaning);
                rows = rows * things % MODULUS;
            }
            return (int) rows;
        }

        private int thingsThatSay(int power, int meaning) {
            int things = 0;
            for (int t = 0; t < THINGS; t++) {
                things += world.saysTo(power, t) == meaning ? 1 : 0;
            }
            return things;
        }

        boolean isHeardSo(int power) {
            if (told.things.size != told.meanings.size) {
                return false;
            }
            for (int i = 0; i < told.things.size; i++) {
                int meaning = told.meanings.get(i);
                if (meaning != NOT_HEARD && world.saysTo(power, told.things.get(i)) != meaning) {
                    return false;
                }
            }
            return true;
        }

        // Huffman: the two least piles always lie together at the end of the longest rows.
        int leastSigns() {
            int all = 0;
            for (int i = 0; i < told.counts.size; i++) {
                put(piles, i, told.counts.get(i), true);
            }
            for (int left = told.counts.size; left > 1; left--) {
                int first = takeLeast(left);
                int both = first + takeLeast(left - 1);
                put(piles, left - 2, both, true);
                all += both;
            }
            return all;
        }

        private int takeLeast(int left) {
            int least = 0;
            for (int i = 1; i < left; i++) {
                if (entry(piles, i) < entry(piles, least)) {
                    least = i;
                }
            }
            int taken = entry(piles, least);
            put(piles, least, entry(piles, left - 1), true);
            return taken;
        }

        // Without a wrong prick each one halves the children. With one that may be wrong, each child
        // stands for itself and for every prick that may have been the wrong one, and an odd number
        // can't be halved (Pelc's bound, which the tests try against all ways to prick).
        int fewestPricks(int n, int e) {
            for (int pricks = 0; pricks < CHILDREN_MOST; pricks++) {
                int cases = e == 0 ? n : n * (pricks + 1) + (n % 2 == 0 ? 0 : pricks - 1);
                if (cases <= 1 << pricks) {
                    return pricks;
                }
            }
            return NONE;
        }

        int restingCells() {
            int resting = 0;
            for (int cell = 0; cell < CELLS; cell++) {
                resting += rests(cell) ? 1 : 0;
            }
            return resting;
        }

        int firstRest() {
            for (int cell = 0; cell < CELLS; cell++) {
                if (rests(cell)) {
                    return cell;
                }
            }
            return NONE;
        }

        private boolean rests(int cell) {
            int row = cell / SIDE;
            int column = cell % SIDE;
            for (int i = 0; i < SIDE; i++) {
                boolean firstLeaves = entry(told.firstTable, SIDE * i + column) > entry(told.firstTable, cell);
                boolean secondLeaves = entry(told.secondTable, SIDE * row + i) > entry(told.secondTable, cell);
                if (firstLeaves || secondLeaves) {
                    return false;
                }
            }
            return true;
        }

        int leads() {
            int most = -CELL_MOST;
            for (int row = 0; row < SIDE; row++) {
                most = Math.max(most, whatRowGets(row));
            }
            return most;
        }

        private int whatRowGets(int row) {
            int cell = SIDE * row;
            for (int i = cell + 1; i < SIDE * row + SIDE; i++) {
                int more = entry(told.secondTable, i) - entry(told.secondTable, cell);
                if (more > 0 || more == 0 && entry(told.firstTable, i) < entry(told.firstTable, cell)) {
                    cell = i;
                }
            }
            return entry(told.firstTable, cell);
        }

        // The chance as parts of n * CHANCE_PARTS, a number that 1 .. 11 all divide: no part is broken.
        int standChance(int k, int n) {
            if (k == 0) {
                return CHANCE_PARTS;
            }
            int parts = 0;
            for (int i = k; i < n; i++) {
                parts += i > 0 ? CHANCE_PARTS / i : 0;
            }
            return k * parts;
        }

        int bestStand(int n) {
            int best = 0;
            for (int k = 1; k < n; k++) {
                if (standChance(k, n) > standChance(best, n)) {
                    best = k;
                }
            }
            return best;
        }

        int commonPart(int a, int b) {
            int high = a;
            int low = b;
            for (int i = 0; i < 100 && low > 0; i++) {
                int rest = high % low;
                high = low;
                low = rest;
            }
            return high;
        }

        int mostSent(int n) {
            planSending(n);
            return bySet[0];
        }

        int howSent(int n) {
            planSending(n);
            int how = 0;
            int taken = 0;
            for (int who = 0; who < n; who++) {
                int to = 0;
                for (int j = 0; j < n; j++) {
                    if (worthIfSent(who, j, taken) == entry(bySet, taken)) {
                        to = j;
                        break;
                    }
                }
                how = 10 * how + to;
                taken |= 1 << to;
            }
            return how;
        }

        // For each set of those taken by the ones before: the most that the others can be worth.
        private void planSending(int n) {
            int all = (1 << n) - 1;
            put(bySet, all, 0, true);
            for (int taken = all - 1; taken >= 0; taken--) {
                int who = Integer.bitCount(taken);
                int most = 0;
                for (int j = 0; j < n; j++) {
                    most = Math.max(most, worthIfSent(who, j, taken));
                }
                put(bySet, taken, most, true);
            }
        }

        private int worthIfSent(int who, int to, int taken) {
            if ((taken >> to & 1) != 0) {
                return NONE;
            }
            return entry(told.worths, SENT_MOST * who + to) + entry(bySet, taken | 1 << to);
        }

        int bestLoad(int most) {
            Arrays.fill(bySet, 0);
            Arrays.fill(alsoBySet, 0);
            int best = 0;
            for (int i = 0; i < told.loads.size; i++) {
                int weight = told.loads.get(i) / 100;
                int worth = told.loads.get(i) % 100;
                for (int set = 1 << i; set < 2 << i; set++) {
                    put(bySet, set, entry(bySet, set - (1 << i)) + weight, true);
                    put(alsoBySet, set, entry(alsoBySet, set - (1 << i)) + worth, true);
                    if (entry(bySet, set) <= most && entry(alsoBySet, set) > entry(alsoBySet, best)) {
                        best = set;
                    }
                }
            }
            return best;
        }

        int worthOf(int set) {
            int all = 0;
            for (int i = 0; i < told.loads.size; i++) {
                all += (set >> i & 1) != 0 ? told.loads.get(i) % 100 : 0;
            }
            return all;
        }

        int waysKept() {
            int ways = 0;
            for (int set = 0; set < SETS; set++) {
                ways += holds(set) ? 1 : 0;
            }
            return ways;
        }

        int leastKept() {
            for (int set = 0; set < SETS; set++) {
                if (holds(set)) {
                    return set;
                }
            }
            return NONE;
        }

        int surelyKept() {
            int ways = 0;
            int sure = SETS - 1;
            for (int set = 0; set < SETS; set++) {
                if (holds(set)) {
                    ways++;
                    sure &= set;
                }
            }
            return ways == 0 ? 0 : sure;
        }

        private boolean holds(int set) {
            for (int i = 0; i < told.promises.size; i++) {
                int promised = told.promises.get(i);
                int a = set >> (promised & 7) & 1;
                int b = set >> (promised >> 3 & 7) & 1;
                if (a != (promised >> 6 & 1) && b != (promised >> 7 & 1)) {
                    return false;
                }
            }
            return true;
        }

        // For each set of hats: in how many ways as many first widows wear just these.
        int waysOfHats(int n) {
            int all = (1 << n) - 1;
            put(bySet, 0, 1, true);
            for (int set = 1; set <= all; set++) {
                int hers = set & entry(told.hats, Integer.bitCount(set) - 1);
                int ways = 0;
                for (int hat = 0; hat < n; hat++) {
                    ways += (hers >> hat & 1) != 0 ? entry(bySet, set ^ 1 << hat) : 0;
                }
                put(bySet, set, ways, true);
            }
            return entry(bySet, all);
        }

        int fewestColours() {
            paintAll();
            for (int k = 1; k <= COLOURS; k++) {
                if (paintings[k] > 0) {
                    return k;
                }
            }
            return NONE;
        }

        // Paintings by just k colours, whichever these are, are counted once; then colours are given out.
        int waysPainted(int colours) {
            paintAll();
            int ways = 0;
            int choices = 1;
            for (int k = 1; k <= colours && k <= COLOURS; k++) {
                choices *= colours - k + 1;
                ways += choices * paintings[k];
            }
            return ways;
        }

        private void paintAll() {
            Arrays.fill(neighbours, 0);
            Arrays.fill(painted, 0);
            Arrays.fill(paintings, 0);
            for (int i = 0; i < told.borders.size; i++) {
                int a = told.borders.get(i) / LANDS;
                int b = told.borders.get(i) % LANDS;
                put(neighbours, a, entry(neighbours, a) | 1 << b, true);
                put(neighbours, b, entry(neighbours, b) | 1 << a, true);
            }
            paint(0, 0, neighbours, painted, paintings);
        }

        private static void paint(int land, int used, int[] neighbours, int[] painted, int[] paintings) {
            if (land >= LANDS) {
                put(paintings, used, entry(paintings, used) + 1, true);
                return;
            }
            for (int k = 0; k <= used && k < painted.length; k++) {
                if ((painted[k] & entry(neighbours, land)) == 0) {
                    painted[k] |= 1 << land;
                    paint(land + 1, Math.max(used, k + 1), neighbours, painted, paintings);
                    painted[k] &= ~(1 << land);
                }
            }
        }

        int mostAlike() {
            for (int i = 0; i <= told.firstCloths.size; i++) {
                for (int j = 0; j <= told.secondCloths.size; j++) {
                    int most = 0;
                    if (i > 0 && j > 0) {
                        int match = told.firstCloths.get(i - 1) == told.secondCloths.get(j - 1) ? 1 : 0;
                        most = Math.max(laid(i - 1, j), laid(i, j - 1));
                        most = Math.max(most, laid(i - 1, j - 1) + match);
                    }
                    put(grid, (CLOTHS + 1) * i + j, most, true);
                }
            }
            return laid(told.firstCloths.size, told.secondCloths.size);
        }

        int fewestChanges() {
            for (int i = 0; i <= told.firstCloths.size; i++) {
                for (int j = 0; j <= told.secondCloths.size; j++) {
                    int fewest = i + j;
                    if (i > 0 && j > 0) {
                        int other = told.firstCloths.get(i - 1) == told.secondCloths.get(j - 1) ? 0 : 1;
                        fewest = Math.min(laid(i - 1, j), laid(i, j - 1)) + 1;
                        fewest = Math.min(fewest, laid(i - 1, j - 1) + other);
                    }
                    put(grid, (CLOTHS + 1) * i + j, fewest, true);
                }
            }
            return laid(told.firstCloths.size, told.secondCloths.size);
        }

        private int laid(int i, int j) {
            return entry(grid, (CLOTHS + 1) * i + j);
        }

        boolean hasEachWordOnce(int row) {
            if (!within(row, 0, 99999)) {
                return false;
            }
            int words = 0;
            for (int w = 0; w < WORDS; w++) {
                words |= 1 << madeOf(row, w);
            }
            return words == (1 << WORDS) - 1;
        }

        private int madeOf(int row, int word) {
            int digits = row;
            for (int i = WORDS - 1; i > word; i--) {
                digits /= 10;
            }
            return digits % 10;
        }

        int becomes(int word) {
            int now = word;
            for (int i = 0; i < told.interpreters.size; i++) {
                now = madeOf(told.interpreters.get(i), now);
            }
            return now;
        }

        int roundsOfWords() {
            for (int rounds = 1; rounds <= ROUNDS_MOST; rounds++) {
                boolean allBack = true;
                for (int w = 0; w < WORDS; w++) {
                    allBack = allBack && rounds % Math.max(1, roundsOf(w)) == 0;
                }
                if (allBack) {
                    return rounds;
                }
            }
            return NONE;
        }

        private int roundsOf(int word) {
            int now = becomes(word);
            int rounds = 1;
            while (now != word && rounds < WORDS) {
                now = becomes(now);
                rounds++;
            }
            return rounds;
        }

        int beginning(int a, int b, int c, boolean pass) {
            learnSilence();
            return firstWinningMove(a, b, c, pass);
        }

        // Once for the object: heaps without the pass first, then with it, the smaller ones first.
        private void learnSilence() {
            if (winsKnown) {
                return;
            }
            winsKnown = true;
            for (int i = 0; i < wins.length; i++) {
                int move = firstWinningMove(i >> 6 & 7, i >> 3 & 7, i & 7, i >= 512);
                wins[i] = move != NONE;
            }
        }

        private int firstWinningMove(int a, int b, int c, boolean pass) {
            int here = 64 * a + 8 * b + c + (pass ? 512 : 0);
            for (int heap = 0; heap < HEAPS; heap++) {
                int size = heap == 0 ? a : heap == 1 ? b : c;
                int one = heap == 0 ? 64 : heap == 1 ? 8 : 1;
                for (int take = 1; take <= size; take++) {
                    if (!isWon(here - one * take)) {
                        return 100 * heap + take;
                    }
                }
            }
            boolean canPass = pass && a + b + c > 0;
            return canPass && !isWon(here - 512) ? PASS : NONE;
        }

        private boolean isWon(int i) {
            return i >= 0 && i < wins.length && wins[i];
        }
    }
}
