/** Promises 7 and 14 to 16, sentence by sentence: days, THE BOOK, and days in thought. */
public final class BoundsOfDaysTest {
    private static final int LEAST = Integer.MIN_VALUE;
    private static final int MOST = Integer.MAX_VALUE;

    public static void main(String[] args) {
        Sentences.run(BoundsOfDaysTest.class, 7, 14, 15, 16);
    }

    private static void due(String what, long got, long want) {
        Sentences.due(what, got, want);
    }

    /** A mute (skill 5, grief 4, false) who is at power 0 (trust 40) of two and has these things. */
    private static BasketEnvoys sent(String law, int... things) {
        BasketEnvoys x = home(law, things);
        x.act(0, 0, 0);
        return x;
    }

    private static BasketEnvoys home(String law, int... things) {
        BasketEnvoys x = new BasketEnvoys();
        x.power(40);
        x.power(60);
        x.mute(5, 4, true);
        for (int thing : things) {
            x.act(2, 0, thing);
        }
        Checks.tell(x, 0, law);
        return x;
    }

    private static BasketEnvoys onDay(int day) {
        BasketEnvoys x = sent("cries 0;nods 0;", 1, 2, 3);
        for (int left = day; left > 0; left -= Math.min(60, left)) {
            x.days(Math.min(60, left));
        }
        return x;
    }

    private static String line(BasketEnvoys x, int i) {
        return x.book(i, 0) + " " + x.book(i, 1) + " " + x.book(i, 2) + " " + x.book(i, 3);
    }

    private static void dueLine(BasketEnvoys x, int i, String line) {
        Sentences.due("line " + i, line(x, i), line);
    }

    private static int next(int state) {
        return 1664525 * state + 1013904223;
    }

    private static int draw(int state) {
        return (int) (((1664525L * state + 1013904223L & 0xffffffffL) >> 8) % 1000);
    }

    private static int stateThatDraws(int draw) {
        for (int state = -1000000; ; state++) {
            if (draw(state) == draw) {
                return state;
            }
        }
    }

    // ---- 7: days

    static void p07From1To60() {
        BasketEnvoys x = sent("");
        due("1", x.days(1), 0);
        due("day", x.look(4), 1);
        due("60", x.days(60), 0);
        due("day", x.look(4), 61);
        for (int n : new int[] {0, -1, LEAST, 61, 62, MOST}) {
            Twins.changesNothing("days " + n, -1, y -> y.days(n));
        }
    }

    static void p07DayUpTo9999() {
        BasketEnvoys x = onDay(9998);
        due("9998", x.look(4), 9998);
        due("one day", x.days(1), 0);
        due("9999", x.look(4), 9999);
        due("sixty at once", onDay(9939).days(60), 0);
        for (int n : new int[] {1, 2, 60}) {
            Twins.changesNothing("beyond 9999", () -> onDay(9999), -1, y -> y.days(n));
        }
        for (int n : new int[] {2, 3, 60}) {
            Twins.changesNothing("beyond 9999", () -> onDay(9998), -1, y -> y.days(n));
        }
        Twins.changesNothing("beyond 9999", () -> onDay(9940), -1, y -> y.days(60));
    }

    static void p07HowManyNodsInTheseDays() {
        BasketEnvoys x = sent("cries 0;nods 1000;", 1, 2, 3, 4, 5);
        due("none yet", x.powerOf(0, 2), 0);
        due("1 day", x.days(1), 1);
        due("2 days", x.days(2), 2);
        due("60 days", x.days(60), 2);
        due("no more", x.days(1), 0);
        due("nods", x.powerOf(0, 2), 5);
    }

    static void p07NodsOfAllPowersAreCounted() {
        BasketEnvoys x = sent("cries 0;nods 1000;", 1, 2);
        x.mute(1, 1, false);
        x.act(2, 1, 7);
        x.act(0, 1, 1);
        due("both", x.days(1), 2);
        due("first", x.powerOf(0, 2), 1);
        due("second", x.powerOf(1, 2), 1);
    }

    static void p07CourtOfDay0() {
        BasketEnvoys x = home("cries 0;nods 0;");
        Checks.tell(x, 2, "on 0 gift 1 5;");
        x.days(1);
        due("on day 0", x.powerOf(1, 0), 65);
        x.days(1);
        due("not on day 1", x.powerOf(1, 0), 65);
    }

    static void p07CourtOfDay999() {
        BasketEnvoys x = onDay(998);
        Checks.tell(x, 2, "on 999 gift 1 5;");
        x.days(1);
        due("not on day 998", x.powerOf(1, 0), 60);
        x.days(1);
        due("on day 999", x.powerOf(1, 0), 65);
        x.days(60);
        due("not on day 1000", x.powerOf(1, 0), 65);
    }

    static void p07CourtOfADayThatIsGoneDoesNothing() {
        BasketEnvoys x = onDay(2);
        Checks.tell(x, 2, "on 1 gift 1 5;");
        x.days(60);
        due("gone", x.powerOf(1, 0), 60);
    }

    static void p07CourtLineByLine() {
        BasketEnvoys x = home("cries 0;nods 0;", 1, 2);
        Checks.tell(x, 2, "on 0 send 0 1;on 0 home 0;on 0 send 0 0;on 0 mourn 0 3;on 0 mourn 0 7;");
        x.days(1);
        dueLine(x, 0, "0 0 0 1");
        dueLine(x, 1, "0 5 0 0");
        dueLine(x, 2, "0 0 0 0");
        due("at the last", x.of(0, 3), 0);
        due("grief at the last", x.of(0, 1), 7);
    }

    static void p07CourtOfSixteenLines() {
        BasketEnvoys x = home("cries 0;nods 0;");
        Checks.tell(x, 2, "on 0 gift 1 1;".repeat(15) + "on 0 gift 1 20;");
        x.days(1);
        due("all of them", x.powerOf(1, 0), 95);
    }

    static void p07CourtSendsOneWhoIsAtHome() {
        BasketEnvoys x = home("cries 0;nods 0;", 1, 2);
        Checks.tell(x, 2, "on 0 send 0 1;on 1 home 0;on 3 send 0 0;");
        x.days(1);
        due("at", x.of(0, 3), 1);
        due("shows on that day", x.of(0, 6), 1);
        x.days(1);
        due("home", x.of(0, 3), -1);
        due("shown as it was", x.of(0, 6), 1);
        x.days(1);
        due("shown as it was", x.of(0, 6), 1);
        x.days(1);
        due("sent anew", x.of(0, 3), 0);
        due("shown from 0", x.of(0, 6), 1);
    }

    static void p07CourtSendsNobodyWhoIsAway() {
        BasketEnvoys x = sent("cries 0;nods 0;", 1, 2, 3);
        x.days(1);
        Checks.tell(x, 2, "on 1 send 0 1;on 1 send 0 0;");
        x.days(1);
        due("where he was", x.of(0, 3), 0);
        due("shown goes on", x.of(0, 6), 2);
        due("no line", x.look(7), 3);
    }

    static void p07CourtCallsHomeWhoIsNot() {
        BasketEnvoys x = sent("cries 0;nods 0;", 1, 2, 3);
        Checks.tell(x, 2, "on 0 home 0;");
        x.days(1);
        due("home", x.of(0, 3), -1);
        due("shows nothing", x.of(0, 6), 0);
        dueLine(x, 1, "0 5 0 0");
        due("lines", x.look(7), 2);
        due("his basket", x.of(0, 5), 3);
    }

    static void p07EachLineOfTheCourtDoesItsOwnAlone() {
        String[] lines = {"on 0 send 0 1;", "on 0 home 0;", "on 0 gift 0 3;", "on 0 mourn 0 3;"};
        for (int i = 0; i < 4; i++) {
            BasketEnvoys x = sent("cries 0;nods 0;");
            Checks.tell(x, 2, "on 0 gift 0 9;".repeat(3));
            Checks.tell(x, 2, lines[i]);
            x.days(1);
            due("trust 0 by " + lines[i], x.powerOf(0, 0), i == 2 ? 43 : 40);
            due("trust 1 by " + lines[i], x.powerOf(1, 0), 60);
            due("grief by " + lines[i], x.of(0, 1), i == 3 ? 3 : 4);
            due("skill by " + lines[i], x.of(0, 0), 5);
            due("home by " + lines[i], x.of(0, 3), -1);
            due("lines by " + lines[i], x.look(7), 2);
        }
    }

    static void p07CourtCallsNobodyHomeWhoIs() {
        BasketEnvoys x = home("cries 0;nods 0;", 1, 2, 3);
        Checks.tell(x, 2, "on 0 home 0;");
        x.days(1);
        due("home", x.of(0, 3), -1);
        due("no line", x.look(7), 0);
    }

    static void p07AGiftIsTrust99AtMost() {
        int[][] gifts = {{0, 1, 1}, {0, 99, 99}, {97, 1, 98}, {98, 1, 99}, {98, 2, 99}, {99, 1, 99}, {99, 99, 99}, {50, 49, 99},
            {50, 50, 99}};
        for (int[] gift : gifts) {
            BasketEnvoys x = home("");
            x.set(0, 1, gift[0]);
            Checks.tell(x, 2, "on 0 gift 1 " + gift[1] + ";");
            x.days(1);
            due(gift[0] + " and " + gift[1], x.powerOf(1, 0), gift[2]);
            due("another's", x.powerOf(0, 0), 40);
            due("no line", x.look(7), 0);
        }
    }

    static void p07MourningMakesGrief0To9() {
        for (int grief : new int[] {0, 1, 9}) {
            BasketEnvoys x = home("");
            Checks.tell(x, 2, "on 0 mourn 0 " + grief + ";");
            x.days(1);
            due("grief", x.of(0, 1), grief);
            due("no line", x.look(7), 0);
        }
        BasketEnvoys away = sent("cries 0;nods 0;", 1);
        Checks.tell(away, 2, "on 0 mourn 0 9;");
        away.days(1);
        due("of one who is away", away.of(0, 1), 9);
    }

    static void p07TheCourtIsBeforeTheMutes() {
        BasketEnvoys x = sent("cries 100*grief when grief<0;cries 1000 when grief=9;cries 0;", 1);
        Checks.tell(x, 2, "on 0 mourn 0 9;");
        x.days(1);
        due("cried on that day", x.of(0, 4), 1);
    }

    static void p07NoDrawForCriesAndNodsOf0() {
        BasketEnvoys x = sent("cries 0;nods 0;", 1);
        x.state(99);
        x.days(1);
        due("no draw", x.look(8), 99);
        due("shown all the same", x.of(0, 6), 1);
    }

    static void p07ADrawForEachAbove0() {
        for (int chance : new int[] {1, 1000}) {
            BasketEnvoys x = sent("cries 0;nods " + chance + ";", 1);
            x.state(99);
            x.days(1);
            due("nods " + chance, x.look(8), next(99));
        }
        int state = stateThatDraws(999);
        BasketEnvoys both = sent("cries 1;nods 1;", 1);
        both.state(state);
        both.days(1);
        due("cries and nods", both.look(8), next(next(state)));
        BasketEnvoys cries = sent("cries 1000;nods 1000;", 1);
        cries.state(99);
        cries.days(1);
        due("who cries out asks for no nod", cries.look(8), next(99));
        BasketEnvoys none = sent("cries 1;nods 1000;");
        none.state(state);
        none.days(1);
        due("who has none to show asks for no nod", none.look(8), next(state));
    }

    static void p07HeCriesOutBelowTheDraw() {
        for (int drawn : new int[] {0, 1, 500, 998, 999}) {
            for (int chance = Math.max(1, drawn); chance <= Math.min(1000, drawn + 1); chance++) {
                BasketEnvoys x = sent("cries " + chance + ";nods 0;", 1);
                x.state(stateThatDraws(drawn));
                x.days(1);
                due(drawn + " below " + chance, x.of(0, 4), drawn < chance ? 1 : 0);
                due("shown", x.of(0, 6), drawn < chance ? 0 : 1);
            }
        }
    }

    static void p07ThePowerNodsBelowTheDraw() {
        for (int drawn : new int[] {0, 1, 500, 998, 999}) {
            for (int chance = Math.max(1, drawn); chance <= Math.min(1000, drawn + 1); chance++) {
                BasketEnvoys x = sent("cries 0;nods " + chance + ";", 1);
                x.state(stateThatDraws(drawn));
                due(drawn + " below " + chance, x.days(1), drawn < chance ? 1 : 0);
                due("shown", x.of(0, 6), 1);
            }
        }
    }

    static void p07HeCriesFirstWhateverHeHasToShow() {
        BasketEnvoys empty = sent("cries 1000;nods 1000;");
        empty.days(1);
        due("of an empty basket", empty.of(0, 4), 1);
        dueLine(empty, 1, "0 4 0 9");
        BasketEnvoys shown = sent("cries 1000 when shown=1;cries 0;nods 0;", 1);
        shown.days(2);
        due("behind all", shown.of(0, 4), 1);
        dueLine(shown, 2, "1 4 0 9");
        BasketEnvoys full = sent("cries 1000;nods 1000;", 1);
        due("before it", full.days(1), 0);
        due("shows nothing", full.of(0, 6), 0);
    }

    static void p07IsThereAPortOneIsLost() {
        for (int ports : new int[] {0, 1, 2, 99}) {
            BasketEnvoys x = sent("cries 1000;", 1);
            x.set(4, 0, ports);
            x.days(1);
            due("ports of " + ports, x.look(2), Math.max(0, ports - 1));
            due("lost of " + ports, x.look(3), Math.min(1, ports));
            due("known", x.look(6), 1);
            dueLine(x, 1, "0 4 0 " + Math.max(0, ports - 1));
        }
    }

    static void p07OfTwoWhoCryTheSecondFindsNoPort() {
        BasketEnvoys x = sent("cries 1000;", 1);
        x.mute(1, 1, false);
        x.act(0, 1, 1);
        x.set(4, 0, 1);
        x.days(1);
        due("ports", x.look(2), 0);
        due("lost", x.look(3), 1);
        due("known", x.look(6), 3);
        due("trust of both", x.powerOf(0, 0) + x.powerOf(1, 0), 0);
    }

    static void p07ACryMakesTrustAndStepOfThatPower0() {
        BasketEnvoys x = sent("cries 1000 when day=1;cries 0;nods 1000;", 1, 2);
        Checks.tell(x, 3, "power 0 wants 1 2 3;power 1 wants 1;");
        x.days(1);
        due("step", x.powerOf(0, 1), 1);
        x.days(1);
        due("trust", x.powerOf(0, 0), 0);
        due("step", x.powerOf(0, 1), 0);
        due("nods stay", x.powerOf(0, 2), 1);
        due("another's trust", x.powerOf(1, 0), 60);
        due("home", x.of(0, 3), -1);
        due("shown as it was", x.of(0, 6), 1);
    }

    static void p07ANodWinsTrust99AtMost() {
        int[][] all = {{0, 0, 0}, {40, 0, 40}, {0, 99, 99}, {97, 1, 98}, {98, 1, 99}, {98, 2, 99}, {99, 1, 99}, {50, 49, 99}, {50, 99, 99}};
        for (int[] v : all) {
            BasketEnvoys x = sent("cries 0;nods 1000;wins " + v[1] + ";", 1);
            x.set(0, 0, v[0]);
            x.days(1);
            due(v[0] + " wins " + v[1], x.powerOf(0, 0), v[2]);
            due("another's", x.powerOf(1, 0), 60);
        }
    }

    static void p07WinsIsAskedBehindTheNodBeforeAllElse() {
        BasketEnvoys x = sent("cries 0;nods 1000;wins trust+10*step+20*shown;", 1, 2);
        x.set(0, 0, 1);
        Checks.tell(x, 3, "power 0 wants 1 2 3;");
        x.days(1);
        due("1 wins 1", x.powerOf(0, 0), 2);
        x.days(1);
        due("2 wins 2 and 10 and 20", x.powerOf(0, 0), 34);
    }

    static void p07NoNodIsTrustLess0AtLeast() {
        for (int trust : new int[] {0, 1, 2, 99}) {
            BasketEnvoys x = sent("cries 0;nods 0;", 1);
            x.set(0, 0, trust);
            due("no nod", x.days(1), 0);
            due("of " + trust, x.powerOf(0, 0), Math.max(0, trust - 1));
            due("nods", x.powerOf(0, 2), 0);
        }
    }

    static void p07WhoWantsNothingHasNoStep() {
        BasketEnvoys x = sent("cries 0;nods 1000;", 0, 0);
        Checks.tell(x, 3, "power 1 wants 0;");
        x.days(2);
        due("step", x.powerOf(0, 1), 0);
        due("treaties", x.powerOf(0, 3), 0);
        due("lines", x.look(7), 3);
    }

    static void p07AllThatItWantsIsATreaty() {
        for (int count = 1; count <= 6; count++) {
            BasketEnvoys x = sent("cries 0;nods 1000;", 5, 5, 5, 5, 5, 5, 5, 5);
            Checks.tell(x, 3, "power 0 wants" + " 5".repeat(count) + ";");
            for (int day = 1; day <= 8; day++) {
                x.days(1);
                due(count + ", step on " + day, x.powerOf(0, 1), day % count);
                due(count + ", treaties on " + day, x.powerOf(0, 3), day / count);
            }
        }
    }

    static void p07WhatItDoesNotWantMakesStep0() {
        BasketEnvoys x = sent("cries 0;nods 1000;", 5, 6, 5, 5, 6, 7);
        Checks.tell(x, 3, "power 0 wants 5 6 7;");
        int[] steps = {1, 2, 0, 1, 2, 0};
        int[] treaties = {0, 0, 0, 0, 0, 1};
        for (int day = 0; day < 6; day++) {
            x.days(1);
            due("step " + day, x.powerOf(0, 1), steps[day]);
            due("treaties " + day, x.powerOf(0, 3), treaties[day]);
        }
        // the first one wanted, come too late, is not the beginning of another row
        BasketEnvoys y = sent("cries 0;nods 1000;", 5, 5, 6, 7);
        Checks.tell(y, 3, "power 0 wants 5 6 7;");
        y.days(2);
        due("step", y.powerOf(0, 1), 0);
        y.days(2);
        due("no treaty", y.powerOf(0, 3), 0);
    }

    static void p07ItReadsWhatTheThingSaysNotItsNumber() {
        BasketEnvoys x = sent("cries 0;nods 1000;", 5, 6);
        Checks.tell(x, 1, "power 0 thing 5 says 15;power 0 thing 6 says 0;");
        Checks.tell(x, 3, "power 0 wants 15 0;");
        x.days(2);
        due("treaties", x.powerOf(0, 3), 1);
        dueLine(x, 1, "0 1 0 15");
        dueLine(x, 2, "1 1 0 0");
        dueLine(x, 3, "1 3 0 0");
    }

    static void p07NoNodLeavesStepAsItIs() {
        BasketEnvoys x = sent("cries 0;nods 1000 when thing=5;nods 0;", 5, 6, 5);
        Checks.tell(x, 3, "power 0 wants 5 5;");
        x.days(2);
        due("step", x.powerOf(0, 1), 1);
        x.days(1);
        due("treaties", x.powerOf(0, 3), 1);
    }

    static void p07ShownIsOneMoreNodOrNot() {
        for (String law : new String[] {"cries 0;nods 0;", "cries 0;nods 1000;"}) {
            BasketEnvoys x = sent(law, 0, 1, 2, 3, 4, 5, 6, 7);
            for (int day = 1; day <= 8; day++) {
                x.days(1);
                due("shown", x.of(0, 6), day);
                due("away", x.of(0, 3), 0);
            }
            x.days(1);
            due("home", x.of(0, 3), -1);
            due("shown", x.of(0, 6), 8);
        }
    }

    static void p07WhoHasNoneLeftGoesHomeInstead() {
        BasketEnvoys empty = sent("cries 0;nods 1000;");
        due("no nod", empty.days(1), 0);
        due("home", empty.of(0, 3), -1);
        due("trust stays", empty.powerOf(0, 0), 40);
        dueLine(empty, 1, "0 5 0 0");
        BasketEnvoys one = sent("cries 0;nods 1000;wins 0;", 4);
        one.days(1);
        due("not on the day of the last", one.of(0, 3), 0);
        one.days(1);
        due("but on the next", one.of(0, 3), -1);
        due("trust stays", one.powerOf(0, 0), 40);
        dueLine(one, 2, "1 5 0 1");
    }

    static void p07WhoIsAtHomeHasNoTurn() {
        BasketEnvoys x = home("cries 1000;nods 1000;", 1);
        due("no nod", x.days(60), 0);
        due("not known", x.look(6), 0);
        due("no line", x.look(7), 0);
        due("no draw", x.look(8), 0);
    }

    static void p07MuteByMuteFromTheFirstToTheFourteenth() {
        BasketEnvoys x = new BasketEnvoys();
        x.power(50);
        for (int i = 0; i < 14; i++) {
            x.mute(1, 1, false);
            x.act(2, i, 13 - i > 11 ? 11 : 13 - i);
        }
        for (int i = 13; i >= 0; i--) {
            x.act(0, i, 0);
        }
        Checks.tell(x, 0, "nods 1000;");
        due("nods", x.days(1), 14);
        for (int i = 0; i < 14; i++) {
            dueLine(x, 14 + i, "0 1 " + i + " " + Math.min(11, 13 - i));
        }
    }

    static void p07AnEarlierTurnCountsForALaterOne() {
        BasketEnvoys x = sent("cries 0;nods 1000 when trust=40;nods 0;wins 1;", 1);
        x.mute(1, 1, false);
        x.act(2, 1, 2);
        x.act(0, 1, 0);
        due("the first alone", x.days(1), 1);
        due("trust", x.powerOf(0, 0), 40);
    }

    static void p07DayIsOneMoreBehindAll() {
        BasketEnvoys x = sent("cries 0;nods 1000 when day=1;nods 0;", 1, 2, 3);
        due("day 0", x.days(1), 0);
        due("day 1", x.days(1), 1);
        due("day 2", x.days(1), 0);
        due("day", x.look(4), 3);
        due("the line's day", x.book(2, 0), 1);
    }

    // ---- 14: book

    static void p14LinesFrom0ToTheLast() {
        BasketEnvoys x = sent("cries 0;nods 0;", 1);
        due("one line", x.look(7), 1);
        dueLine(x, 0, "0 0 0 0");
        for (int i : new int[] {-1, LEAST, 1, 2, 149, 150, MOST}) {
            for (int what = 0; what < 4; what++) {
                due("line " + i, x.book(i, what), -1);
            }
        }
        x.days(1);
        dueLine(x, 1, "0 2 0 1");
        due("line 2", x.book(2, 0), -1);
    }

    static void p14AnotherWhatIsNone() {
        for (int what : new int[] {-1, LEAST, 4, 5, MOST}) {
            Twins.changesNothing("what " + what, -1, x -> x.book(0, what));
        }
    }

    static void p14AskingChangesNothing() {
        for (int what = 0; what < 4; what++) {
            int w = what;
            Twins.changesNothing("what " + what, Twins.full().book(1, what), x -> x.book(1, w));
        }
        Twins.changesNothing("no line", -1, x -> x.book(1000, 0));
    }

    static void p14The150thLineAndNoMore() {
        BasketEnvoys x = home("cries 0;", 1);
        for (int i = 1; i <= 149; i++) {
            x.act(4, 0, 0);
        }
        due("149", x.look(7), 149);
        due("no 150th", x.book(149, 0), -1);
        x.days(1);
        x.act(0, 0, 1);
        due("150", x.look(7), 150);
        dueLine(x, 149, "1 0 0 1");
        x.act(1, 0, 0);
        due("done all the same", x.of(0, 3), -1);
        due("no more", x.look(7), 150);
        due("no 151st", x.book(150, 0), -1);
        dueLine(x, 149, "1 0 0 1");
        dueLine(x, 0, "0 6 0 0");
    }

    static void p14NoMoreLinesOfADay() {
        BasketEnvoys x = home("cries 0;nods 1000;", 1);
        for (int i = 1; i <= 148; i++) {
            x.act(4, 0, 0);
        }
        Checks.tell(x, 3, "power 1 wants 1;");
        Checks.tell(x, 2, "on 0 send 0 1;");
        x.days(1);
        dueLine(x, 148, "0 0 0 1");
        dueLine(x, 149, "0 1 0 1");
        due("150", x.look(7), 150);
        due("the treaty has no line", x.powerOf(1, 3), 1);
    }

    static void p14UndoneLinesLeaveRoom() {
        BasketEnvoys x = home("cries 0;", 1);
        for (int i = 1; i <= 150; i++) {
            x.act(4, 0, 0);
        }
        x.act(4, 0, 0);
        x.undo();
        due("still full", x.look(7), 150);
        x.undo();
        due("one less", x.look(7), 149);
        due("none there", x.book(149, 0), -1);
        x.act(0, 0, 0);
        dueLine(x, 149, "0 0 0 0");
    }

    static void p14HowMuchOfEachKind() {
        BasketEnvoys x = home("cries 1000 when day=3;cries 0;nods 1000 when thing=4;nods 0;", 4, 6, 6);
        Checks.tell(x, 1, "power 1 thing 4 says 9;power 1 thing 6 says 8;");
        Checks.tell(x, 3, "power 1 wants 9;");
        x.set(4, 0, 7);
        x.act(4, 0, 0);
        x.act(0, 0, 1);
        x.days(2);
        x.act(1, 0, 0);
        x.days(1);
        x.act(4, 0, 0);
        x.act(0, 0, 1);
        x.days(1);
        String[] lines = {"0 6 0 0", "0 0 0 1", "0 1 0 9", "0 3 0 1", "1 2 0 8", "2 5 0 2", "3 6 0 1", "3 0 0 1", "3 4 0 6"};
        due("lines", x.look(7), lines.length);
        for (int i = 0; i < lines.length; i++) {
            dueLine(x, i, lines[i]);
        }
    }

    static void p14OfOneWhoCriedOut4Alone() {
        BasketEnvoys x = sent("cries 1000;", 4);
        x.days(1);
        due("lines", x.look(7), 2);
        dueLine(x, 1, "0 4 0 9");
    }

    // ---- 15: goes

    static void p15From1To60() {
        BasketEnvoys x = sent("cries 0;nods 500;wins 0;", 1, 1, 1, 1, 1, 1, 1, 1);
        due("1", x.goes(1, 0), 1);
        due("60", x.goes(60, 0), 8);
        for (int n : new int[] {0, -1, LEAST, 61, MOST}) {
            for (int what = 0; what < 4; what++) {
                int w = what;
                Twins.changesNothing("goes " + n, -1, y -> y.goes(n, w));
            }
        }
    }

    static void p15TheSixtiethDayIsOne() {
        for (int day = 58; day <= 60; day++) {
            BasketEnvoys x = home("", 1);
            Checks.tell(x, 2, "on " + day + " gift 0 1;");
            due("59 days", x.goes(59, 3), day <= 58 ? 101 : 100);
            due("60 days", x.goes(60, 3), day <= 59 ? 101 : 100);
        }
    }

    static void p15AnotherWhatIsNone() {
        for (int what : new int[] {-1, LEAST, 4, MOST}) {
            Twins.changesNothing("what " + what, -1, x -> x.goes(1, what));
        }
    }

    static void p15NothingOfItStaysAndNoDraws() {
        for (int n : new int[] {1, 2, 60}) {
            for (int what = 0; what < 4; what++) {
                int w = what;
                Twins.changesNothing("goes " + n + " " + what, Twins.full().goes(n, what), x -> x.goes(n, w));
            }
        }
    }

    static void p15NodsFallAt500AndNotAt499() {
        due("499", sent("cries 0;nods 499;", 1).goes(1, 0), 0);
        due("500", sent("cries 0;nods 500;", 1).goes(1, 0), 1);
        due("499, trust", sent("cries 0;nods 499;", 1).goes(1, 3), 99);
        due("500, trust", sent("cries 0;nods 500;", 1).goes(1, 3), 101);
    }

    static void p15CriesFallAt500AndNotAt499() {
        due("499", sent("cries 499;nods 0;", 1).goes(1, 2), 10);
        due("500", sent("cries 500;nods 0;", 1).goes(1, 2), 9);
        due("500, trust", sent("cries 500;nods 0;", 1).goes(1, 3), 60);
    }

    static void p15ItFallsSoWhateverTheState() {
        for (int state : new int[] {0, stateThatDraws(0), stateThatDraws(999), -1}) {
            BasketEnvoys x = sent("cries 499;nods 500;", 1, 2);
            x.state(state);
            due("nods", x.goes(2, 0), 2);
            due("ports", x.goes(2, 2), 10);
        }
    }

    static void p15SumsOfAllThen() {
        BasketEnvoys x = sent("cries 0;nods 1000;wins 5;", 1, 2, 3);
        x.mute(1, 1, false);
        x.act(2, 1, 4);
        x.act(0, 1, 1);
        Checks.tell(x, 3, "power 0 wants 1;power 1 wants 4;");
        due("nods", x.goes(1, 0), 2);
        due("treaties", x.goes(1, 1), 2);
        due("trust", x.goes(1, 3), 110);
        x.days(1);
        due("nods, with those before", x.goes(1, 0), 3);
        due("treaties, with those before", x.goes(1, 1), 2);
        due("trust, with what was won before", x.goes(1, 3), 115);
    }

    static void p15TheCourtGoesOnInThought() {
        BasketEnvoys x = home("cries 0;nods 500;wins 0;", 1, 2);
        Checks.tell(x, 2, "on 1 send 0 1;on 2 home 0;on 3 gift 0 9;");
        due("1", x.goes(1, 0), 0);
        due("2", x.goes(2, 0), 1);
        due("3", x.goes(3, 0), 1);
        due("trust", x.goes(3, 3), 100);
        due("trust", x.goes(4, 3), 109);
    }

    static void p15AFullBookDoesNotHinder() {
        BasketEnvoys x = home("cries 0;nods 500;", 1, 2);
        for (int i = 0; i < 150; i++) {
            x.act(4, 0, 0);
        }
        x.act(0, 0, 0);
        due("nods", x.goes(2, 0), 2);
        due("lines", x.look(7), 150);
    }

    static void p15BeyondDay9999() {
        BasketEnvoys x = onDay(9999);
        due("ports", x.goes(60, 2), 10);
        due("day", x.look(4), 9999);
    }

    // ---- 16: peace

    static void p16APowerThatThereIsNot() {
        for (int power : new int[] {-1, LEAST, 3, 10, MOST}) {
            Twins.changesNothing("peace " + power, -1, x -> x.peace(power));
        }
    }

    static void p16NothingOfItStays() {
        for (int power = 0; power < 3; power++) {
            int p = power;
            Twins.changesNothing("peace " + power, Twins.full().peace(power), x -> x.peace(p));
        }
    }

    static void p16BehindHowManyDays() {
        for (int count = 1; count <= 6; count++) {
            BasketEnvoys x = sent("cries 0;nods 500;", 5, 5, 5, 5, 5, 5, 5, 5);
            Checks.tell(x, 3, "power 0 wants" + " 5".repeat(count) + ";");
            due("wants " + count, x.peace(0), count);
            due("the other one", x.peace(1), -1);
        }
    }

    static void p16WithinSixtyDays() {
        for (int day : new int[] {0, 58, 59, 60}) {
            BasketEnvoys x = home("cries 0;nods 500;", 5);
            Checks.tell(x, 3, "power 0 wants 5;");
            Checks.tell(x, 2, "on " + day + " send 0 0;");
            due("on " + day, x.peace(0), day < 60 ? day + 1 : -1);
        }
    }

    static void p16MoreTreatiesThanNow() {
        BasketEnvoys x = sent("cries 0;nods 1000;", 5, 6, 6, 5);
        Checks.tell(x, 3, "power 0 wants 5;");
        due("the first", x.peace(0), 1);
        x.days(1);
        due("one there", x.powerOf(0, 3), 1);
        due("the second", x.peace(0), 3);
        x.days(3);
        due("no third", x.peace(0), -1);
    }

    static void p16FromStepAsItIsNow() {
        BasketEnvoys x = sent("cries 0;nods 1000;", 5, 6, 7);
        Checks.tell(x, 3, "power 0 wants 5 6 7;");
        for (int left = 3; left > 0; left--) {
            due("behind", x.peace(0), left);
            due("treaties", x.goes(left, 1), 1);
            due("a day less", x.goes(left - 1, 1), left == 1 ? -1 : 0);
            x.days(1);
        }
    }

    static void p16NodsFallAt500AndNotAt499() {
        for (int chance = 499; chance <= 500; chance++) {
            BasketEnvoys x = sent("cries 0;nods " + chance + ";", 5);
            Checks.tell(x, 3, "power 0 wants 5;");
            due("at " + chance, x.peace(0), chance < 500 ? -1 : 1);
        }
    }

    static void p16WhoWantsNothingHasNone() {
        due("peace", sent("cries 0;nods 1000;", 5, 5).peace(0), -1);
    }
}
