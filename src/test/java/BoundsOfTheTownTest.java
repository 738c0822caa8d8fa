/** Promises 1 to 6 and 46, sentence by sentence: where they begin, where they end, and what is refused. */
public final class BoundsOfTheTownTest {
    private static final int LEAST = Integer.MIN_VALUE;
    private static final int MOST = Integer.MAX_VALUE;

    public static void main(String[] args) {
        Sentences.run(BoundsOfTheTownTest.class, 1, 2, 3, 4, 5, 6, 46);
    }

    private static void due(String what, long got, long want) {
        Sentences.due(what, got, want);
    }

    private static void due(String what, boolean got, boolean want) {
        Sentences.due(what, got, want);
    }

    /** One power (trust 40) and two mutes at home, the first of whom can cry out. */
    private static BasketEnvoys small() {
        BasketEnvoys x = new BasketEnvoys();
        x.power(40);
        x.mute(5, 4, true);
        x.mute(6, 3, false);
        return x;
    }

    private static BasketEnvoys tenPowers() {
        BasketEnvoys x = new BasketEnvoys();
        for (int i = 0; i < 10; i++) {
            x.power(10 * i);
        }
        return x;
    }

    private static BasketEnvoys fourteenMutes() {
        BasketEnvoys x = new BasketEnvoys();
        for (int i = 0; i < 14; i++) {
            x.mute(i % 10, 9 - i % 10, i % 3 == 0);
        }
        return x;
    }

    // What a DRAW of 1000 is from this STATE: its highest 24 bits, without sign.
    private static int draw(int state) {
        long next = 1664525L * state + 1013904223L & 0xffffffffL;
        return (int) ((next >> 8) % 1000);
    }

    private static int stateThatDraws(int draw, boolean isNegativeThen) {
        for (int state = 0; ; state++) {
            if (draw(state) == draw && 1664525 * state + 1013904223 < 0 == isNegativeThen) {
                return state;
            }
        }
    }

    // ---- 1: a new object

    static void p01NoEnvoysAndNoPowers() {
        BasketEnvoys x = new BasketEnvoys();
        due("powers", x.look(0), 0);
        due("mutes", x.look(1), 0);
        for (int what = -1; what <= 18; what++) {
            due("of", x.of(0, what), -2);
            due("powerOf", x.powerOf(0, what), -2);
        }
        due("peace", x.peace(0), -1);
        due("alike", x.alike(0), -1);
        due("lightest", x.lightest(0, 0), -1);
        due("heard", x.heard(0, 0), -1);
    }

    static void p01TenPortsAtFirst() {
        due("ports", new BasketEnvoys().look(2), 10);
    }

    static void p01NoneLostAtFirst() {
        due("lost", new BasketEnvoys().look(3), 0);
    }

    static void p01DayIs0AtFirst() {
        due("day", new BasketEnvoys().look(4), 0);
    }

    static void p01StateIs0AtFirst() {
        due("state", new BasketEnvoys().look(8), 0);
        due("state", new BasketEnvoys().state(5), 0);
    }

    static void p01NobodyAwayNorKnownAtFirst() {
        due("away", new BasketEnvoys().look(5), 0);
        due("known", new BasketEnvoys().look(6), 0);
    }

    static void p01TheBookIsEmptyAtFirst() {
        due("lines", new BasketEnvoys().look(7), 0);
        for (int what = 0; what < 4; what++) {
            due("line 0", new BasketEnvoys().book(0, what), -1);
        }
    }

    static void p01TextsAreEmptyAtFirst() {
        BasketEnvoys x = small();
        for (int k = 0; k < 4; k++) {
            due("lines of " + k, x.look(9 + k), 0);
        }
        due("the law", x.of(0, 7), 200);
        due("wants", x.powerOf(0, 4), 0);
        due("says", x.powerOf(0, 111), 11);
    }

    static void p01TheTapeIsEmptyAtFirst() {
        BasketEnvoys x = new BasketEnvoys();
        due("end 1", x.end(1), false);
        due("end 0", x.end(0), true);
        due("feed", x.feed(0, 0, 0, 0, 0), 20);
    }

    static void p01NoFaultAtFirst() {
        due("fault", new BasketEnvoys().fault(0), 0);
        due("place", new BasketEnvoys().fault(1), -1);
    }

    static void p01NothingToUndoAndNoImageAtFirst() {
        due("kept", new BasketEnvoys().look(13), 0);
        Twins.changesNothing("undo", BasketEnvoys::new, 0, x -> Twins.yes(x.undo()));
        Twins.changesNothing("image", BasketEnvoys::new, 0, x -> Twins.yes(x.image(false)));
    }

    static void p01NothingIsToldForThoughtAtFirst() {
        BasketEnvoys x = small();
        due("alike", x.alike(0), 1);
        due("lightest", x.lightest(0, 0), 0);
        due("lightest rows", x.lightest(0, 1), 1);
        due("heard", x.heard(0, 0), 1);
        due("heard so", x.heard(0, 1), 1);
        due("signs", x.signs(), 0);
        due("tables", x.tables(0), 9);
        due("tables first", x.tables(1), 0);
        due("tables leads", x.tables(2), 0);
        due("sent", x.sent(6, 0), 0);
        due("carried", x.carried(200, 0), 0);
        due("carried which", x.carried(200, 1), 0);
        due("kept", x.kept(0), 256);
        due("hats", x.hats(1), 0);
        due("map", x.map(1), 1);
        due("map fewest", x.map(-1), 1);
        due("cloths", x.cloths(1), 0);
        due("word", x.word(4), 4);
        due("rounds", x.word(-1), 1);
    }

    static void p01OneTownIsNotAnother() {
        BasketEnvoys other = Twins.full();
        due("a full one", other.look(0), 3);
        Twins.alike("a new one beside it", BasketEnvoys::new, () -> {
            Twins.full().days(60);
            return new BasketEnvoys();
        });
        due("the full one stays", other.look(4), 1);
    }

    static void p01NoneIsMinus1() {
        due("NONE", BasketEnvoys.NONE, -1);
    }

    // ---- 2: state

    static void p02TellsWhatItWas() {
        BasketEnvoys x = new BasketEnvoys();
        int was = 0;
        for (int v : new int[] {1, -1, MOST, LEAST, 0, 77}) {
            due("before " + v, x.state(v), was);
            due("look at " + v, x.look(8), v);
            was = v;
        }
    }

    static void p02ADrawWraps() {
        for (int state : new int[] {0, 1, -1, 2579, MOST, LEAST, 123456789}) {
            BasketEnvoys x = small();
            x.state(state);
            x.act(4, 0, 0);
            due("behind " + state, x.look(8), 1664525 * state + 1013904223);
        }
    }

    static void p02ADrawIsTheHighest24BitsWithoutSign() {
        for (boolean isNegative : new boolean[] {false, true}) {
            for (int drawn : new int[] {0, 1, 499, 500, 998, 999}) {
                int state = stateThatDraws(drawn, isNegative);
                for (int chance = Math.max(1, drawn - 1); chance <= drawn + 2 && chance <= 1000; chance++) {
                    BasketEnvoys x = small();
                    Checks.tell(x, 0, "cries " + chance + ";");
                    x.state(state);
                    x.act(4, 0, 0);
                    due("a draw of " + drawn + " below " + chance, x.of(0, 4), drawn < chance ? 1 : 0);
                }
            }
        }
    }

    // ---- 3: power

    static void p03TrustFrom0To99() {
        BasketEnvoys x = new BasketEnvoys();
        due("0", x.power(0), 0);
        due("99", x.power(99), 1);
        due("trust 0", x.powerOf(0, 0), 0);
        due("trust 99", x.powerOf(1, 0), 99);
    }

    static void p03TrustBelow0CantBe() {
        for (int trust : new int[] {-1, -2, LEAST}) {
            Twins.changesNothing("power " + trust, -1, x -> x.power(trust));
        }
    }

    static void p03TrustAbove99CantBe() {
        for (int trust : new int[] {100, 101, MOST}) {
            Twins.changesNothing("power " + trust, -1, x -> x.power(trust));
        }
    }

    static void p03TheNumbersAsTheyCome() {
        BasketEnvoys x = new BasketEnvoys();
        for (int i = 0; i < 10; i++) {
            due("how many", x.look(0), i);
            due("number", x.power(i), i);
        }
        for (int i = 0; i < 10; i++) {
            due("trust of " + i, x.powerOf(i, 0), i);
        }
    }

    static void p03TenAndNotEleven() {
        due("ten", tenPowers().look(0), 10);
        due("the tenth", tenPowers().powerOf(9, 0), 90);
        Twins.changesNothing("the eleventh", BoundsOfTheTownTest::tenPowers, -1, x -> x.power(50));
        Twins.changesNothing("the eleventh of 0", BoundsOfTheTownTest::tenPowers, -1, x -> x.power(0));
    }

    static void p03StepNodsTreatiesAre0AtFirst() {
        BasketEnvoys x = Twins.full();
        int power = x.power(7);
        for (int what = 1; what <= 5; what++) {
            due("what " + what, x.powerOf(power, what), 0);
        }
    }

    static void p03TheOthersStayAsTheyWere() {
        BasketEnvoys x = Twins.full();
        x.power(7);
        due("trust 0", x.powerOf(0, 0), Twins.full().powerOf(0, 0));
        due("wants", x.powerOf(0, 4), 2);
        due("mutes", x.look(1), 3);
    }

    // ---- 4: mute

    static void p04SkillFrom0To9() {
        BasketEnvoys x = new BasketEnvoys();
        due("0", x.mute(0, 5, false), 0);
        due("9", x.mute(9, 5, false), 1);
        due("skill 0", x.of(0, 0), 0);
        due("skill 9", x.of(1, 0), 9);
    }

    static void p04SkillBelow0CantBe() {
        for (int skill : new int[] {-1, LEAST}) {
            Twins.changesNothing("skill " + skill, -1, x -> x.mute(skill, 5, true));
        }
    }

    static void p04SkillAbove9CantBe() {
        for (int skill : new int[] {10, MOST}) {
            Twins.changesNothing("skill " + skill, -1, x -> x.mute(skill, 5, true));
        }
    }

    static void p04GriefFrom0To9() {
        BasketEnvoys x = new BasketEnvoys();
        due("0", x.mute(5, 0, false), 0);
        due("9", x.mute(5, 9, false), 1);
        due("grief 0", x.of(0, 1), 0);
        due("grief 9", x.of(1, 1), 9);
    }

    static void p04GriefBelow0CantBe() {
        for (int grief : new int[] {-1, LEAST}) {
            Twins.changesNothing("grief " + grief, -1, x -> x.mute(5, grief, true));
        }
    }

    static void p04GriefAbove9CantBe() {
        for (int grief : new int[] {10, MOST}) {
            Twins.changesNothing("grief " + grief, -1, x -> x.mute(5, grief, true));
        }
    }

    static void p04FalseIs0Or1() {
        BasketEnvoys x = new BasketEnvoys();
        x.mute(1, 1, false);
        x.mute(1, 1, true);
        due("false", x.of(0, 2), 0);
        due("true", x.of(1, 2), 1);
    }

    static void p04TheNumbersAsTheyCome() {
        BasketEnvoys x = new BasketEnvoys();
        for (int i = 0; i < 14; i++) {
            due("how many", x.look(1), i);
            due("number", x.mute(i % 10, i % 7, i % 2 == 0), i);
        }
        for (int i = 0; i < 14; i++) {
            due("skill of " + i, x.of(i, 0), i % 10);
            due("grief of " + i, x.of(i, 1), i % 7);
            due("false of " + i, x.of(i, 2), 1 - i % 2);
        }
    }

    static void p04FourteenAndNotFifteen() {
        due("fourteen", fourteenMutes().look(1), 14);
        due("the fourteenth", fourteenMutes().of(13, 0), 3);
        Twins.changesNothing("the fifteenth", BoundsOfTheTownTest::fourteenMutes, -1, x -> x.mute(0, 0, false));
    }

    static void p04AtHomeNotKnownEmptyHandedAtFirst() {
        BasketEnvoys x = Twins.full();
        int mute = x.mute(9, 9, true);
        due("at", x.of(mute, 3), -1);
        due("known", x.of(mute, 4), 0);
        due("things", x.of(mute, 5), 0);
        due("shown", x.of(mute, 6), 0);
        due("thing 0", x.of(mute, 10), -1);
    }

    // ---- 5: set

    private static void setsFrom0To(int what, int most, Twins.Call seen) {
        for (int v : new int[] {0, 1, most}) {
            BasketEnvoys x = small();
            due("set " + v, x.set(what, 0, v), true);
            due("is " + v, seen.on(x), v);
        }
        for (int v : new int[] {-1, LEAST, most + 1, MOST}) {
            Twins.changesNothing("set " + what + " to " + v, 0, x -> Twins.yes(x.set(what, 0, v)));
        }
    }

    private static void setsOfTheFirst(int what, int size) {
        BasketEnvoys x = Twins.full();
        due("the last", x.set(what, size - 1, 1), true);
        for (int who : new int[] {-1, LEAST, size, MOST}) {
            Twins.changesNothing("set " + what + " of " + who, 0, y -> Twins.yes(y.set(what, who, 1)));
        }
    }

    static void p05TrustFrom0To99() {
        setsFrom0To(0, 99, x -> x.powerOf(0, 0));
    }

    static void p05SkillFrom0To9() {
        setsFrom0To(1, 9, x -> x.of(0, 0));
    }

    static void p05GriefFrom0To9() {
        setsFrom0To(2, 9, x -> x.of(0, 1));
    }

    static void p05FalseFrom0To1() {
        setsFrom0To(3, 1, x -> x.of(0, 2));
    }

    static void p05PortsFrom0To99() {
        setsFrom0To(4, 99, x -> x.look(2));
    }

    static void p05TrustOfAPowerThatThereIs() {
        setsOfTheFirst(0, 3);
    }

    static void p05SkillOfAMuteThatThereIs() {
        setsOfTheFirst(1, 3);
    }

    static void p05GriefOfAMuteThatThereIs() {
        setsOfTheFirst(2, 3);
    }

    static void p05FalseOfAMuteThatThereIs() {
        setsOfTheFirst(3, 3);
    }

    static void p05PowersAndMutesAreCountedApart() {
        BasketEnvoys x = new BasketEnvoys();
        x.power(1);
        due("no mute", x.set(1, 0, 1), false);
        BasketEnvoys y = new BasketEnvoys();
        y.mute(1, 1, false);
        due("no power", y.set(0, 0, 1), false);
    }

    static void p05OfPortsWhoIsNotAsked() {
        for (int who : new int[] {LEAST, -1, 0, 14, MOST}) {
            BasketEnvoys x = new BasketEnvoys();
            due("who " + who, x.set(4, who, 33), true);
            due("ports", x.look(2), 33);
        }
    }

    static void p05AnotherWhatCantBe() {
        for (int what : new int[] {-1, 5, LEAST, MOST}) {
            Twins.changesNothing("what " + what, 0, x -> Twins.yes(x.set(what, 0, 1)));
        }
    }

    static void p05TheOthersStayAsTheyWere() {
        BasketEnvoys x = small();
        x.set(0, 0, 1);
        x.set(1, 0, 2);
        x.set(2, 0, 3);
        x.set(3, 0, 0);
        x.set(4, 0, 9);
        int[] first = {2, 3, 0, -1, 0, 0, 0};
        int[] second = {6, 3, 0, -1, 0, 0, 0};
        for (int what = 0; what < 7; what++) {
            due("first " + what, x.of(0, what), first[what]);
            due("second " + what, x.of(1, what), second[what]);
        }
        due("lost", x.look(3), 0);
        due("day", x.look(4), 0);
        due("nods", x.powerOf(0, 2), 0);
    }

    static void p05LikewiseOfOneWhoIsAway() {
        BasketEnvoys x = small();
        x.act(0, 0, 0);
        for (int what = 1; what <= 3; what++) {
            due("what " + what, x.set(what, 0, 1), true);
            due("is so", x.of(0, what - 1), 1);
        }
        due("still away", x.of(0, 3), 0);
    }

    // ---- 6: act

    static void p06SendOneWhoIsAtHome() {
        BasketEnvoys x = Twins.full();
        due("at home", x.of(1, 3), -1);
        due("sent", x.act(0, 1, 2), true);
        due("at", x.of(1, 3), 2);
        due("shown", x.of(1, 6), 0);
        due("a line", x.book(x.look(7) - 1, 1), 0);
        due("who", x.book(x.look(7) - 1, 2), 1);
        due("how much", x.book(x.look(7) - 1, 3), 2);
        due("day", x.book(x.look(7) - 1, 0), 1);
        due("his basket", x.of(1, 5), 1);
        due("not known by it", x.of(1, 4), Twins.full().of(1, 4));
    }

    static void p06SendOneWhoIsAwayCantBe() {
        for (int power = 0; power < 3; power++) {
            int to = power;
            Twins.changesNothing("to " + power, 0, x -> Twins.yes(x.act(0, 0, to)));
        }
    }

    static void p06SendToAPowerThatThereIsNotCantBe() {
        for (int power : new int[] {-1, LEAST, 3, MOST}) {
            Twins.changesNothing("to " + power, 0, x -> Twins.yes(x.act(0, 1, power)));
        }
        due("to the first", Twins.full().act(0, 1, 0), true);
        due("to the last", Twins.full().act(0, 1, 2), true);
        Twins.changesNothing("to the tenth and above", () -> {
            BasketEnvoys x = tenPowers();
            x.mute(1, 1, true);
            return x;
        }, 0, x -> Twins.yes(x.act(0, 0, 10)));
    }

    static void p06SendingMakesShown0() {
        BasketEnvoys x = small();
        x.act(2, 0, 1);
        Checks.tell(x, 0, "nods 0;cries 0;");
        x.act(0, 0, 0);
        x.days(1);
        due("shown", x.of(0, 6), 1);
        x.act(1, 0, 0);
        due("at home as it was", x.of(0, 6), 1);
        x.act(0, 0, 0);
        due("sent anew", x.of(0, 6), 0);
    }

    static void p06AMuteThatThereIsNotCantBe() {
        for (int what = 0; what <= 4; what++) {
            for (int who : new int[] {-1, LEAST, 3, MOST}) {
                int w = what;
                Twins.changesNothing("act " + what + " of " + who, 0, x -> Twins.yes(x.act(w, who, 0)));
            }
        }
    }

    static void p06HomeOneWhoIsNot() {
        BasketEnvoys x = Twins.full();
        due("home", x.act(1, 0, 0), true);
        due("at", x.of(0, 3), -1);
        due("shown as it was", x.of(0, 6), 1);
        due("a line", x.book(x.look(7) - 1, 1), 5);
        due("how much", x.book(x.look(7) - 1, 3), 1);
        due("his basket", x.of(0, 5), 3);
        due("its fourth", x.of(0, 13), -1);
        due("not known by it", x.of(0, 4), Twins.full().of(0, 4));
        due("trust", x.powerOf(0, 0), Twins.full().powerOf(0, 0));
    }

    static void p06HomeOneWhoIsCantBe() {
        Twins.changesNothing("home", 0, x -> Twins.yes(x.act(1, 1, 0)));
        Twins.changesNothing("home, of an empty basket", 0, x -> Twins.yes(x.act(1, 2, 0)));
    }

    static void p06OfHomeEmptyPrickVIsNotAsked() {
        for (int v : new int[] {LEAST, -1, 12, MOST}) {
            due("home " + v, Twins.full().act(1, 0, v), true);
            due("empty " + v, Twins.full().act(3, 1, v), true);
            due("prick " + v, Twins.full().act(4, 1, v), true);
        }
    }

    static void p06PutThing0To11() {
        for (int thing : new int[] {0, 11}) {
            BasketEnvoys x = small();
            due("put " + thing, x.act(2, 0, thing), true);
            due("is in it", x.of(0, 10), thing);
            due("one", x.of(0, 5), 1);
        }
        for (int thing : new int[] {-1, LEAST, 12, MOST}) {
            Twins.changesNothing("put " + thing, 0, x -> Twins.yes(x.act(2, 1, thing)));
        }
    }

    static void p06PutEightAndNotNine() {
        Twins.Maker eight = () -> {
            BasketEnvoys x = small();
            for (int i = 0; i < 8; i++) {
                x.act(2, 0, i);
            }
            return x;
        };
        BasketEnvoys x = eight.make();
        due("eight", x.of(0, 5), 8);
        due("the eighth", x.of(0, 17), 7);
        due("another's", x.of(1, 5), 0);
        due("another's first", x.of(1, 10), -1);
        Twins.changesNothing("the ninth", eight, 0, y -> Twins.yes(y.act(2, 0, 5)));
        due("one into another basket", x.act(2, 1, 5), true);
    }

    static void p06PutOneThatIsThereToo() {
        BasketEnvoys x = small();
        due("first", x.act(2, 0, 4), true);
        due("again", x.act(2, 0, 4), true);
        due("two", x.of(0, 5), 2);
        due("behind it", x.of(0, 11), 4);
    }

    static void p06PutBehindThoseInIt() {
        BasketEnvoys x = small();
        for (int i = 0; i < 8; i++) {
            x.act(2, 0, 11 - i);
        }
        for (int i = 0; i < 8; i++) {
            due("thing " + i, x.of(0, 10 + i), 11 - i);
        }
    }

    static void p06PutIntoABasketThatIsAwayCantBe() {
        Twins.changesNothing("put", 0, x -> Twins.yes(x.act(2, 0, 5)));
    }

    static void p06EmptyABasketThatIsNot() {
        BasketEnvoys x = small();
        x.act(2, 0, 4);
        due("empty", x.act(3, 0, 0), true);
        due("none", x.of(0, 5), 0);
        due("no thing", x.of(0, 10), -1);
        x.act(2, 0, 5);
        due("one anew", x.of(0, 5), 1);
        due("the new one", x.of(0, 10), 5);
    }

    static void p06EmptyAnEmptyBasketCantBe() {
        Twins.changesNothing("empty", 0, x -> Twins.yes(x.act(3, 2, 0)));
    }

    static void p06EmptyABasketThatIsAwayCantBe() {
        Twins.changesNothing("empty", 0, x -> Twins.yes(x.act(3, 0, 0)));
    }

    static void p06ShownStaysAsItWasByEmptyingAndPutting() {
        BasketEnvoys x = Twins.full();
        x.act(1, 0, 0);
        due("shown", x.of(0, 6), 1);
        x.act(3, 0, 0);
        due("emptied", x.of(0, 6), 1);
        x.act(2, 0, 7);
        due("put", x.of(0, 6), 1);
    }

    static void p06NoLineForPuttingAndEmptying() {
        BasketEnvoys x = small();
        x.act(2, 0, 7);
        x.act(3, 0, 7);
        due("lines", x.look(7), 0);
    }

    static void p06PrickOneWhoIsAwayCantBe() {
        Twins.changesNothing("prick", 0, x -> Twins.yes(x.act(4, 0, 0)));
    }

    static void p06PrickAsksForNoDrawAt0() {
        BasketEnvoys x = small();
        Checks.tell(x, 0, "cries 0;");
        x.state(9);
        due("prick", x.act(4, 0, 0), true);
        due("no draw", x.look(8), 9);
        due("not known", x.of(0, 4), 0);
        due("a line", x.book(0, 1), 6);
        due("who", x.book(0, 2), 0);
        due("did not cry", x.book(0, 3), 0);
    }

    static void p06PrickDrawsFrom1To1000() {
        for (int chance : new int[] {1, 2, 999, 1000}) {
            for (int drawn : new int[] {0, 1, 2, 998, 999}) {
                BasketEnvoys x = small();
                Checks.tell(x, 0, "cries " + chance + ";");
                int state = stateThatDraws(drawn, true);
                x.state(state);
                due("prick", x.act(4, 1, 0), true);
                due("a draw", x.look(8), 1664525 * state + 1013904223);
                due("known at " + chance + " by " + drawn, x.of(1, 4), drawn < chance ? 1 : 0);
                due("cried", x.book(0, 3), drawn < chance ? 1 : 0);
            }
        }
    }

    static void p06PrickDoesNothingElse() {
        BasketEnvoys x = Twins.full();
        x.end(0);
        Checks.tell(x, 0, "cries 1000;");
        BasketEnvoys y = Twins.full();
        x.act(4, 1, 0);
        due("known", x.look(6), 2);
        for (int what = 2; what <= 5; what++) {
            due("look " + what, x.look(what), y.look(what));
        }
        for (int what = 0; what <= 3; what++) {
            due("power " + what, x.powerOf(0, what), y.powerOf(0, what));
            due("mute " + what, x.of(1, what), y.of(1, what));
        }
        due("basket", x.of(1, 5), y.of(1, 5));
        due("shown", x.of(1, 6), y.of(1, 6));
        due("one line", x.look(7), y.look(7) + 1);
    }

    static void p06WhoIsKnownStaysSo() {
        BasketEnvoys x = small();
        Checks.tell(x, 0, "cries 1000;");
        x.act(4, 0, 0);
        Checks.tell(x, 0, "cries 0;");
        x.act(4, 0, 0);
        due("known", x.of(0, 4), 1);
        due("did not cry", x.book(1, 3), 0);
    }

    static void p06AnotherWhatCantBe() {
        for (int what : new int[] {-1, 5, LEAST, MOST}) {
            for (int who = 0; who < 2; who++) {
                int mute = who;
                Twins.changesNothing("what " + what, 0, x -> Twins.yes(x.act(what, mute, 0)));
            }
        }
    }

    // ---- 46: look

    static void p46WhatFrom0To13() {
        BasketEnvoys x = Twins.full();
        // the cry of the second mute, whose chance is 180, is drawn
        int[] dues = {3, 3, 10, 0, 1, 1, 0, 5, x.state(0), 3, 2, 2, 2};
        x = Twins.full();
        for (int what = 0; what <= 12; what++) {
            if (what != 6 && what != 7) {
                due("look " + what, x.look(what), dues[what]);
            }
        }
        due("look 13", x.look(13), 6);
    }

    static void p46AnotherWhatIsNone() {
        for (int what : new int[] {-1, LEAST, 14, 15, MOST}) {
            Twins.changesNothing("look " + what, -1, x -> x.look(what));
        }
    }

    static void p46AskingChangesNothing() {
        for (int what = 0; what <= 13; what++) {
            int w = what;
            Twins.changesNothing("look " + what, Twins.full().look(what), x -> x.look(w));
        }
    }

    static void p46SetsFromTheFirstToTheFourteenth() {
        BasketEnvoys x = fourteenMutes();
        x.power(5);
        Checks.tell(x, 0, "cries 1000;");
        due("none away", x.look(5), 0);
        due("none known", x.look(6), 0);
        x.act(4, 0, 0);
        x.act(4, 13, 0);
        due("known", x.look(6), 1 + (1 << 13));
        x.act(0, 13, 0);
        due("away", x.look(5), 1 << 13);
        for (int i = 0; i < 13; i++) {
            x.act(0, i, 0);
        }
        due("all away", x.look(5), (1 << 14) - 1);
        due("all at it", x.powerOf(0, 5), (1 << 14) - 1);
    }

    static void p46WhatCanBeUndoneIsSixAtMost() {
        BasketEnvoys x = small();
        for (int i = 1; i <= 8; i++) {
            x.act(2, 0, 1);
            due("kept", x.look(13), Math.min(6, i));
        }
    }

    static void p46The512thCallIsAnsweredAsTheFirst() {
        BasketEnvoys x = Twins.full();
        for (int i = 0; i < 200; i++) {
            due("set", x.set(4, 0, i % 100), true);
            due("ports", x.look(2), i % 100);
        }
        BasketEnvoys y = new BasketEnvoys();
        y.power(5);
        y.mute(1, 1, true);
        for (int i = 0; i < 127; i++) {
            due("put", y.act(2, 0, i % 12), true);
            due("emptied", y.act(3, 0, 0), true);
            due("undo", y.undo(), true);
            due("undo", y.undo(), true);
        }
        due("sent", y.act(0, 0, 0), true);
        due("the 512th", y.days(1), 0);
    }

    static void p46LinesOfEachTextUpTo16() {
        String[] lines = {"nods 1;", "power 0 thing 1 says 2;", "on 1 home 0;", "power 0 wants 3;"};
        for (int k = 0; k < 4; k++) {
            BasketEnvoys x = small();
            for (int count : new int[] {16, 1, 0}) {
                Checks.tell(x, k, lines[k].repeat(count));
                due("lines of " + k, x.look(9 + k), count);
            }
        }
    }
}
