/** Promises 17 to 25, sentence by sentence: rows that are read or heard, weights, signs, pins. */
public final class BoundsOfReadingTest {
    private static final int LEAST = Integer.MIN_VALUE;
    private static final int MOST = Integer.MAX_VALUE;

    public static void main(String[] args) {
        Sentences.run(BoundsOfReadingTest.class, 17, 18, 19, 20, 21, 22, 23, 24, 25);
    }

    private static void due(String what, long got, long want) {
        Sentences.due(what, got, want);
    }

    private static void due(String what, boolean got, boolean want) {
        Sentences.due(what, got, want);
    }

    /** Three powers; things 0 and 1 say 5 to power 1, and thing 0 says 5 to power 2. */
    private static BasketEnvoys readers() {
        BasketEnvoys x = new BasketEnvoys();
        x.power(1);
        x.power(2);
        x.power(3);
        Checks.tell(x, 1, "power 1 thing 0 says 5;power 1 thing 1 says 5;power 2 thing 0 says 5;");
        return x;
    }

    /** The call tells something for thought, and changes nothing else. */
    private static void tellsThoughtAlone(String what, long want, Twins.Call call) {
        Twins.alikeBut(what, Twins::full, () -> {
            BasketEnvoys x = Twins.full();
            due(what, call.on(x), want);
            return x;
        }, "what is thought, what is told");
    }

    // ---- 17: shows

    static void p17Thing0To11() {
        BasketEnvoys x = readers();
        due("0", x.shows(0), 1);
        due("11", x.shows(11), 2);
        for (int thing : new int[] {-2, LEAST, 12, MOST}) {
            Twins.changesNothing("shows " + thing, -1, y -> y.shows(thing));
        }
    }

    private static BasketEnvoys eightShown() {
        BasketEnvoys x = readers();
        for (int i = 1; i <= 8; i++) {
            x.shows(i);
        }
        return x;
    }

    static void p17EightAndNotNine() {
        BasketEnvoys x = readers();
        for (int i = 1; i <= 8; i++) {
            due("how many", x.shows(i), i);
        }
        Twins.changesNothing("the ninth", BoundsOfReadingTest::eightShown, -1, y -> y.shows(0));
        // the eighth one counts: thing 0 is read by power 0 alone as itself
        BasketEnvoys seven = readers();
        for (int i = 0; i < 7; i++) {
            seven.shows(5);
        }
        due("alike by seven", seven.alike(0), 7);
        due("the eighth", seven.shows(0), 8);
        due("alike by eight", seven.alike(0), 1);
    }

    static void p17NoneEmptiesTheRow() {
        BasketEnvoys x = eightShown();
        due("empty", x.shows(-1), 0);
        due("alike", x.alike(0), 7);
        due("again", x.shows(0), 1);
        due("an empty one", readers().shows(-1), 0);
    }

    static void p17TellsThatRowAlone() {
        tellsThoughtAlone("shows", 3, x -> x.shows(5));
        tellsThoughtAlone("empties", 0, x -> x.shows(-1));
    }

    // ---- 18: alike

    static void p18APowerThatThereIsNot() {
        for (int power : new int[] {-1, LEAST, 3, 10, MOST}) {
            Twins.changesNothing("alike " + power, -1, x -> x.alike(power));
        }
    }

    static void p18ItselfToo() {
        BasketEnvoys x = readers();
        x.shows(0);
        x.shows(1);
        due("0", x.alike(0), 1);
        due("1", x.alike(1), 2);
        due("2", x.alike(2), 4);
    }

    static void p18OfAnEmptyRowAll() {
        for (int power = 0; power < 3; power++) {
            due("alike", readers().alike(power), 7);
        }
    }

    static void p18EachThingOfTheRowCounts() {
        BasketEnvoys x = readers();
        x.shows(0);
        due("1 and 2", x.alike(1), 6);
        due("2 and 1", x.alike(2), 6);
        due("0", x.alike(0), 1);
        x.shows(1);
        due("1", x.alike(1), 2);
        x.shows(-1);
        x.shows(1);
        due("0 and 2", x.alike(0), 5);
    }

    static void p18TenPowersAreASet() {
        BasketEnvoys x = new BasketEnvoys();
        for (int i = 0; i < 10; i++) {
            x.power(i);
        }
        due("all", x.alike(9), 1023);
        Checks.tell(x, 1, "power 9 thing 0 says 1;");
        x.shows(0);
        due("the tenth", x.alike(9), 512);
        due("the others", x.alike(0), 511);
    }

    static void p18AskingChangesNothing() {
        Twins.changesNothing("alike", 3, x -> x.alike(0));
    }

    // ---- 19: weighs

    static void p19Thing0To11() {
        due("0", readers().weighs(0, 5), true);
        due("11", readers().weighs(11, 5), true);
        for (int thing : new int[] {-1, LEAST, 12, MOST}) {
            Twins.changesNothing("thing " + thing, 0, x -> Twins.yes(x.weighs(thing, 5)));
        }
    }

    static void p19Weight0To99() {
        for (int weight : new int[] {0, 1, 99}) {
            BasketEnvoys x = readers();
            Checks.tell(x, 3, "power 0 wants 0;");
            due("weighs", x.weighs(0, weight), true);
            due("lightest", x.lightest(0, 0), weight);
        }
        for (int weight : new int[] {-1, LEAST, 100, MOST}) {
            Twins.changesNothing("weight " + weight, 0, x -> Twins.yes(x.weighs(3, weight)));
        }
    }

    static void p19EachThingHasItsOwn() {
        BasketEnvoys x = readers();
        for (int thing = 0; thing < 12; thing++) {
            x.weighs(thing, thing * 8 + 1);
        }
        for (int thing = 0; thing < 12; thing++) {
            Checks.tell(x, 3, "power 0 wants " + thing + ";");
            due("thing " + thing, x.lightest(0, 0), thing * 8 + 1);
        }
    }

    static void p19TellsThatWeightAlone() {
        tellsThoughtAlone("weighs", 1, x -> Twins.yes(x.weighs(5, 9)));
    }

    // ---- 20: lightest

    static void p20APowerThatThereIsNot() {
        for (int power : new int[] {-1, LEAST, 3, 10, MOST}) {
            for (int what = 0; what < 2; what++) {
                int w = what;
                Twins.changesNothing("lightest " + power, -1, x -> x.lightest(power, w));
            }
        }
    }

    static void p20AnotherWhat() {
        for (int what : new int[] {-1, LEAST, 2, MOST}) {
            Twins.changesNothing("what " + what, -1, x -> x.lightest(0, what));
            Twins.changesNothing("what " + what, -1, x -> x.lightest(1, what));
        }
    }

    static void p20WeightsAre0AtFirst() {
        BasketEnvoys x = readers();
        Checks.tell(x, 3, "power 0 wants 3 4 5;");
        due("lightest", x.lightest(0, 0), 0);
    }

    static void p20WantsNothing() {
        BasketEnvoys x = readers();
        x.weighs(0, 9);
        due("weight", x.lightest(0, 0), 0);
        due("rows", x.lightest(0, 1), 1);
    }

    static void p20ThereIsNone() {
        BasketEnvoys x = readers();
        Checks.tell(x, 3, "power 1 wants 5 0;power 0 wants 12;power 2 wants 15 15;");
        for (int power = 0; power < 3; power++) {
            due("weight", x.lightest(power, 0), -1);
            due("rows", x.lightest(power, 1), 0);
        }
    }

    static void p20TheLeastOfAll() {
        BasketEnvoys x = readers();
        Checks.tell(x, 3, "power 1 wants 5 5 3;power 2 wants 5;power 0 wants 5;");
        x.weighs(0, 9);
        x.weighs(1, 8);
        x.weighs(5, 7);
        x.weighs(3, 50);
        due("three things say 5", x.lightest(1, 0), 64);
        due("rows", x.lightest(1, 1), 9);
        due("two things say 5", x.lightest(2, 0), 7);
        due("rows", x.lightest(2, 1), 2);
        due("one thing says 5", x.lightest(0, 0), 7);
        due("rows", x.lightest(0, 1), 1);
        x.weighs(5, 99);
        due("three things say 5", x.lightest(1, 0), 66);
        due("two things say 5", x.lightest(2, 0), 9);
        due("one thing says 5", x.lightest(0, 0), 99);
    }

    static void p20SixOfTwelve() {
        BasketEnvoys x = readers();
        StringBuilder text = new StringBuilder();
        for (int thing = 0; thing < 12; thing++) {
            text.append("power 0 thing ").append(thing).append(" says 15;");
            x.weighs(thing, 99);
        }
        Checks.tell(x, 1, text.toString());
        Checks.tell(x, 3, "power 0 wants 15 15 15 15 15 15;");
        due("weight", x.lightest(0, 0), 594);
        due("rows", x.lightest(0, 1), 2985984);
    }

    static void p20AskingChangesNothing() {
        Twins.changesNothing("weight", 2, x -> x.lightest(0, 0));
        Twins.changesNothing("rows", 2, x -> x.lightest(0, 1));
    }

    // ---- 21: hears

    static void p21Meaning0To15() {
        BasketEnvoys x = readers();
        due("0", x.hears(0), 1);
        due("15", x.hears(15), 2);
        for (int meaning : new int[] {-3, LEAST, 16, MOST}) {
            Twins.changesNothing("hears " + meaning, -1, y -> y.hears(meaning));
        }
    }

    static void p21NoneMinus1IsNotHeard() {
        BasketEnvoys x = readers();
        due("not heard", x.hears(-2), 1);
        due("rows", x.heard(0, 0), 12);
    }

    private static BasketEnvoys eightHeard() {
        BasketEnvoys x = readers();
        for (int i = 1; i <= 8; i++) {
            x.hears(i % 2 == 0 ? -2 : 5);
        }
        return x;
    }

    static void p21EightAndNotNine() {
        BasketEnvoys x = readers();
        for (int i = 1; i <= 8; i++) {
            due("how many", x.hears(-2), i);
        }
        Twins.changesNothing("the ninth", BoundsOfReadingTest::eightHeard, -1, y -> y.hears(5));
        Twins.changesNothing("the ninth, not heard", BoundsOfReadingTest::eightHeard, -1, y -> y.hears(-2));
    }

    static void p21NoneEmptiesTheRow() {
        BasketEnvoys x = eightHeard();
        due("empty", x.hears(-1), 0);
        due("rows", x.heard(0, 0), 1);
        due("again", x.hears(5), 1);
        due("an empty one", readers().hears(-1), 0);
    }

    static void p21TellsThatRowAlone() {
        tellsThoughtAlone("hears", 3, x -> x.hears(5));
        tellsThoughtAlone("not heard", 3, x -> x.hears(-2));
        tellsThoughtAlone("empties", 0, x -> x.hears(-1));
    }

    // ---- 22: heard

    static void p22APowerThatThereIsNot() {
        for (int power : new int[] {-1, LEAST, 3, 10, MOST}) {
            for (int what = 0; what < 2; what++) {
                int w = what;
                Twins.changesNothing("heard " + power, -1, x -> x.heard(power, w));
            }
        }
    }

    static void p22AnotherWhat() {
        for (int what : new int[] {-1, LEAST, 2, MOST}) {
            Twins.changesNothing("what " + what, -1, x -> x.heard(0, what));
        }
    }

    static void p22AnEmptyRowIsOne() {
        due("rows", readers().heard(0, 0), 1);
    }

    static void p22BothEmptyIsSo() {
        due("so", readers().heard(0, 1), 1);
        BasketEnvoys x = readers();
        x.shows(1);
        due("one thing, none heard", x.heard(0, 1), 0);
        BasketEnvoys y = readers();
        y.hears(1);
        due("no thing, one heard", y.heard(0, 1), 0);
        y.hears(-1);
        y.hears(-2);
        due("no thing, one not heard", y.heard(0, 1), 0);
    }

    static void p22AsMany() {
        for (int things = 0; things <= 8; things++) {
            BasketEnvoys x = readers();
            for (int i = 0; i < things; i++) {
                x.shows(5);
            }
            due(things + " and 0", x.heard(0, 1), things == 0 ? 1 : 0);
            for (int i = 1; i <= 8; i++) {
                x.hears(i % 2 == 0 ? 5 : -2);
                due(things + " and " + i, x.heard(0, 1), things == i ? 1 : 0);
            }
        }
    }

    static void p22WhereItWasHeard() {
        for (int wrong = 0; wrong < 8; wrong++) {
            BasketEnvoys x = readers();
            BasketEnvoys y = readers();
            for (int i = 0; i < 8; i++) {
                x.shows(i);
                y.shows(i);
                x.hears(i == wrong ? 9 : i);
                y.hears(i == wrong ? -2 : i);
            }
            due("another one at " + wrong, x.heard(0, 1), 0);
            due("not heard at " + wrong, y.heard(0, 1), 1);
        }
    }

    static void p22AsThatPowerReadsIt() {
        BasketEnvoys x = readers();
        x.shows(1);
        x.hears(5);
        due("0", x.heard(0, 1), 0);
        due("1", x.heard(1, 1), 1);
        due("2", x.heard(2, 1), 0);
    }

    static void p22HowManyRows() {
        BasketEnvoys x = readers();
        x.hears(5);
        due("0", x.heard(0, 0), 1);
        due("1", x.heard(1, 0), 3);
        due("2", x.heard(2, 0), 2);
        x.hears(0);
        due("0", x.heard(0, 0), 1);
        due("nothing says 0 to 1", x.heard(1, 0), 0);
        x.hears(-1);
        x.hears(15);
        due("nothing says 15", x.heard(0, 0), 0);
        x.hears(-2);
        due("nor with one not heard", x.heard(0, 0), 0);
    }

    static void p22TwelveOfEightNotHeard() {
        BasketEnvoys x = readers();
        int rows = 1;
        for (int i = 0; i < 8; i++) {
            x.hears(-2);
            rows *= 12;
            due("rows", x.heard(0, 0), rows);
        }
    }

    static void p22AskingChangesNothing() {
        Twins.changesNothing("rows", 24, x -> x.heard(0, 0));
        Twins.changesNothing("so", 1, x -> x.heard(0, 1));
    }

    // ---- 23: count

    static void p23From1To99() {
        BasketEnvoys x = readers();
        due("1", x.count(1), 1);
        due("99", x.count(99), 2);
        due("signs", x.signs(), 100);
        for (int v : new int[] {0, -2, LEAST, 100, MOST}) {
            Twins.changesNothing("count " + v, -1, y -> y.count(v));
        }
    }

    private static BasketEnvoys eightCounts() {
        BasketEnvoys x = readers();
        for (int i = 1; i <= 8; i++) {
            x.count(i);
        }
        return x;
    }

    static void p23EightAndNotNine() {
        BasketEnvoys x = readers();
        for (int i = 1; i <= 8; i++) {
            due("how many", x.count(i), i);
        }
        Twins.changesNothing("the ninth", BoundsOfReadingTest::eightCounts, -1, y -> y.count(5));
    }

    static void p23NoneEmptiesThem() {
        BasketEnvoys x = eightCounts();
        due("none", x.count(-1), 0);
        due("signs", x.signs(), 0);
        due("again", x.count(7), 1);
        due("of none", readers().count(-1), 0);
    }

    static void p23TellsTheCountsAlone() {
        tellsThoughtAlone("count", 3, x -> x.count(7));
        tellsThoughtAlone("none", 0, x -> x.count(-1));
    }

    // ---- 24: signs

    static void p24NoneToldIs0() {
        due("signs", readers().signs(), 0);
    }

    static void p24OneAloneIs0() {
        for (int v : new int[] {1, 50, 99}) {
            BasketEnvoys x = readers();
            x.count(v);
            due("signs", x.signs(), 0);
        }
    }

    static void p24TwoHaveOneSignEach() {
        BasketEnvoys x = readers();
        x.count(99);
        x.count(98);
        due("signs", x.signs(), 197);
    }

    static void p24EightOf99HaveThreeEach() {
        BasketEnvoys x = readers();
        for (int i = 0; i < 8; i++) {
            x.count(99);
        }
        due("signs", x.signs(), 8 * 99 * 3);
    }

    static void p24WhateverTheirOrder() {
        int[][] orders = {{1, 1, 2, 4, 8, 16, 32, 64}, {64, 32, 16, 8, 4, 2, 1, 1}, {16, 1, 64, 2, 8, 1, 32, 4}};
        for (int[] order : orders) {
            BasketEnvoys x = readers();
            for (int v : order) {
                x.count(v);
            }
            due("signs", x.signs(), 64 + 2 * 32 + 3 * 16 + 4 * 8 + 5 * 4 + 6 * 2 + 7 + 7);
        }
    }

    static void p24AskingChangesNothing() {
        Twins.changesNothing("signs", 8, x -> x.signs());
    }

    // ---- 25: pins

    static void p25From1To20() {
        for (int e = 0; e <= 1; e++) {
            int wrong = e;
            due("1", readers().pins(1, e), 0);
            due("20", readers().pins(20, e), e == 0 ? 5 : 8);
            for (int n : new int[] {0, -1, LEAST, 21, MOST}) {
                Twins.changesNothing("pins " + n, -1, x -> x.pins(n, wrong));
            }
        }
    }

    static void p25Wrong0Or1() {
        for (int e : new int[] {-1, LEAST, 2, MOST}) {
            Twins.changesNothing("wrong " + e, -1, x -> x.pins(5, e));
            Twins.changesNothing("wrong " + e, -1, x -> x.pins(1, e));
        }
    }

    static void p25HalvesWithoutAWrongOne() {
        int[] most = {1, 2, 4, 8, 16};
        for (int pricks = 0; pricks < 5; pricks++) {
            due("of " + most[pricks], readers().pins(most[pricks], 0), pricks);
            due("of one more", readers().pins(most[pricks] + 1, 0), pricks + 1);
        }
    }

    static void p25WithAWrongOne() {
        int[] most = {1, 2, 4, 8, 16};
        int[] pricks = {0, 3, 5, 6, 7, 8};
        for (int i = 0; i < 5; i++) {
            due("of " + most[i], readers().pins(most[i], 1), pricks[i]);
            due("of one more", readers().pins(most[i] + 1, 1), pricks[i + 1]);
        }
    }

    static void p25AskingChangesNothing() {
        Twins.changesNothing("pins", 8, x -> x.pins(20, 1));
    }
}
