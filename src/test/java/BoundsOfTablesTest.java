/** Promises 26 to 36, sentence by sentence: tables, offers, worths, loads, promises, hats. */
public final class BoundsOfTablesTest {
    private static final int LEAST = Integer.MIN_VALUE;
    private static final int MOST = Integer.MAX_VALUE;

    public static void main(String[] args) {
        Sentences.run(BoundsOfTablesTest.class, 26, 27, 28, 29, 30, 31, 32, 33, 34, 35, 36);
    }

    private static void due(String what, long got, long want) {
        Sentences.due(what, got, want);
    }

    private static void due(String what, boolean got, boolean want) {
        Sentences.due(what, got, want);
    }

    /** The call tells something for thought, and changes nothing else. */
    private static void tellsThoughtAlone(String what, long want, Twins.Call call) {
        Twins.alikeBut(what, Twins::full, () -> {
            BasketEnvoys x = Twins.full();
            due(what, call.on(x), want);
            return x;
        }, "what is thought, what is told");
    }

    private static BasketEnvoys tables(int[] first, int[] second) {
        BasketEnvoys x = new BasketEnvoys();
        for (int i = 0; i < 9; i++) {
            x.table(0, i, first[i]);
            x.table(1, i, second[i]);
        }
        return x;
    }

    // ---- 26: table

    static void p26Table0And1() {
        due("0", new BasketEnvoys().table(0, 0, 1), true);
        due("1", new BasketEnvoys().table(1, 0, 1), true);
        for (int which : new int[] {-1, LEAST, 2, MOST}) {
            Twins.changesNothing("table " + which, 0, x -> Twins.yes(x.table(which, 4, 1)));
        }
    }

    static void p26Cell0To8() {
        for (int which = 0; which < 2; which++) {
            int w = which;
            for (int cell = 0; cell < 9; cell++) {
                due("cell " + cell, new BasketEnvoys().table(which, cell, 1), true);
            }
            for (int cell : new int[] {-1, LEAST, 9, MOST}) {
                Twins.changesNothing("cell " + cell, 0, x -> Twins.yes(x.table(w, cell, 1)));
            }
        }
    }

    static void p26FromMinus9To9() {
        for (int which = 0; which < 2; which++) {
            int w = which;
            for (int v : new int[] {-9, -1, 0, 1, 9}) {
                due("value " + v, new BasketEnvoys().table(which, 0, v), true);
            }
            for (int v : new int[] {-10, LEAST, 10, MOST}) {
                Twins.changesNothing("value " + v, 0, x -> Twins.yes(x.table(w, 4, v)));
            }
        }
    }

    static void p26ThreeTimesRowAndColumn() {
        // the first gets 9 in one cell alone: he leaves the others of its column, the second leaves nothing
        for (int cell = 0; cell < 9; cell++) {
            BasketEnvoys x = new BasketEnvoys();
            x.table(0, cell, 9);
            due("rests", x.tables(0), 7);
            due("the first", x.tables(1), cell == 0 ? 0 : cell % 3 == 0 ? 1 : 0);
            due("leads", x.tables(2), 0);
            BasketEnvoys y = new BasketEnvoys();
            y.table(1, cell, 9);
            due("rests", y.tables(0), 7);
            due("the first", y.tables(1), cell == 0 ? 0 : cell < 3 ? cell : 0);
        }
    }

    static void p26TellsThatCellAlone() {
        tellsThoughtAlone("table 0", 1, x -> Twins.yes(x.table(0, 0, 9)));
        tellsThoughtAlone("table 1", 1, x -> Twins.yes(x.table(1, 8, -9)));
    }

    // ---- 27: tables

    static void p27CellsAre0AtFirst() {
        BasketEnvoys x = new BasketEnvoys();
        due("all rest", x.tables(0), 9);
        due("the first", x.tables(1), 0);
        due("leads", x.tables(2), 0);
    }

    static void p27AnotherWhatIsNoneMinus99() {
        for (int what : new int[] {-1, LEAST, 3, MOST}) {
            Twins.changesNothing("what " + what, -100, x -> x.tables(what));
        }
    }

    static void p27NoneRests() {
        BasketEnvoys x = tables(new int[] {1, -1, 0, -1, 1, 0, 0, 0, -1}, new int[] {-1, 1, 0, 1, -1, 0, 0, 0, 1});
        due("how many", x.tables(0), 0);
        due("the first", x.tables(1), -1);
    }

    static void p27NobodyLeavesForAsMuch() {
        BasketEnvoys x = tables(new int[] {5, 5, 5, 5, 5, 5, 5, 5, 4}, new int[] {3, 3, 3, 3, 3, 3, 3, 3, 3});
        due("all but one rest", x.tables(0), 8);
        x.table(0, 2, 6);
        due("for more they leave", x.tables(0), 7);
    }

    static void p27TheLastCellRestsToo() {
        BasketEnvoys x = tables(new int[] {0, 1, 0, 1, 0, 0, 0, 0, 1}, new int[] {1, 0, 0, 0, 1, 0, 0, 0, 1});
        due("how many", x.tables(0), 1);
        due("the first", x.tables(1), 8);
    }

    static void p27LeadsFromMinus9To9() {
        int[] all9 = {9, 9, 9, 9, 9, 9, 9, 9, 9};
        int[] allMinus9 = {-9, -9, -9, -9, -9, -9, -9, -9, -9};
        due("most", tables(all9, all9).tables(2), 9);
        due("least", tables(allMinus9, all9).tables(2), -9);
    }

    static void p27OfSeveralTheOneWorstForTheFirst() {
        BasketEnvoys x = tables(new int[] {9, 3, 8, 9, 9, 2, 1, 1, 1}, new int[] {7, 7, 6, 0, 5, 5, 9, 9, 9});
        due("3 of row 0, 2 of row 1", x.tables(2), 3);
        x.table(1, 1, 6);
        due("9 of row 0", x.tables(2), 9);
        BasketEnvoys y = tables(new int[] {9, 8, 7, -9, -9, -9, -9, -9, -9}, new int[] {1, 2, 1, 0, 0, 0, 0, 0, 0});
        due("better by one for the second", y.tables(2), 8);
        due("it leaves the others for one more", y.tables(0), 1);
        due("this one", y.tables(1), 1);
    }

    static void p27EachRowCanLead() {
        for (int row = 0; row < 3; row++) {
            int[] first = {0, 0, 0, 0, 0, 0, 0, 0, 0};
            int[] second = {0, 0, 0, 0, 0, 0, 0, 0, 0};
            for (int column = 0; column < 3; column++) {
                first[3 * row + column] = 3 + column;
                second[3 * row + column] = column;
            }
            due("row " + row, tables(first, second).tables(2), 5);
        }
    }

    static void p27AskingChangesNothing() {
        Twins.changesNothing("how many", Twins.full().tables(0), x -> x.tables(0));
        Twins.changesNothing("the first", Twins.full().tables(1), x -> x.tables(1));
        Twins.changesNothing("leads", Twins.full().tables(2), x -> x.tables(2));
    }

    // ---- 28: stand

    static void p28From1To12() {
        due("1", new BasketEnvoys().stand(1, 0, 0), 1);
        due("1, below", new BasketEnvoys().stand(1, 0, 1), 1);
        due("12", new BasketEnvoys().stand(12, 0, 1), 12);
        for (int n : new int[] {0, -1, LEAST, 13, MOST}) {
            for (int what = 0; what < 3; what++) {
                int w = what;
                Twins.changesNothing("n " + n, -1, x -> x.stand(n, 0, w));
            }
        }
    }

    static void p28KFrom0ToNMinus1() {
        for (int n = 1; n <= 12; n++) {
            due("k 0 of " + n, new BasketEnvoys().stand(n, 0, 1), n);
            due("the last k of " + n, new BasketEnvoys().stand(n, n - 1, 1), n);
            for (int k : new int[] {-1, LEAST, n, MOST}) {
                due("k " + k + " of " + n, new BasketEnvoys().stand(n, k, 0), -1);
                due("k " + k + " of " + n, new BasketEnvoys().stand(n, k, 1), -1);
            }
        }
        Twins.changesNothing("k above", -1, x -> x.stand(5, 5, 0));
        Twins.changesNothing("k below", -1, x -> x.stand(5, -1, 1));
    }

    static void p28OfTheLeastKIsNotAsked() {
        for (int k : new int[] {LEAST, -1, 0, 5, 12, MOST}) {
            due("of 5", new BasketEnvoys().stand(5, k, 2), 2);
        }
    }

    static void p28AnotherWhat() {
        for (int what : new int[] {-1, LEAST, 3, MOST}) {
            Twins.changesNothing("what " + what, -1, x -> x.stand(5, 2, what));
        }
    }

    static void p28ToTheFirstOneOfK0() {
        for (int n = 1; n <= 12; n++) {
            due("above", new BasketEnvoys().stand(n, 0, 0), 1);
            due("below", new BasketEnvoys().stand(n, 0, 1), n);
        }
    }

    static void p28InLowestTerms() {
        // 2/4 (1/2 + 1/3 ) = 5/12, and 3/4 of 1/3 = 1/4
        due("4, 2 above", new BasketEnvoys().stand(4, 2, 0), 5);
        due("4, 2 below", new BasketEnvoys().stand(4, 2, 1), 12);
        due("4, 3 above", new BasketEnvoys().stand(4, 3, 0), 1);
        due("4, 3 below", new BasketEnvoys().stand(4, 3, 1), 4);
        due("2, 1 above", new BasketEnvoys().stand(2, 1, 0), 1);
        due("2, 1 below", new BasketEnvoys().stand(2, 1, 1), 2);
    }

    static void p28TheLeastKOfSeveral() {
        int[] best = {0, 0, 1, 1, 2, 2, 2, 3, 3, 3, 4, 4};
        for (int n = 1; n <= 12; n++) {
            due("of " + n, new BasketEnvoys().stand(n, 0, 2), best[n - 1]);
        }
    }

    static void p28AskingChangesNothing() {
        for (int what = 0; what < 3; what++) {
            int w = what;
            Twins.changesNothing("stand", new BasketEnvoys().stand(6, 2, what), x -> x.stand(6, 2, w));
        }
    }

    // ---- 29: worth

    static void p29Of0To5With0To5() {
        for (int a = 0; a < 6; a++) {
            for (int b = 0; b < 6; b++) {
                BasketEnvoys x = new BasketEnvoys();
                due("worth", x.worth(a, b, 5), true);
                due("sent", x.sent(6, 0), 5);
                due("not of fewer", x.sent(5, 0), a < 5 && b < 5 ? 5 : 0);
            }
        }
        for (int v : new int[] {-1, LEAST, 6, MOST}) {
            Twins.changesNothing("a " + v, 0, x -> Twins.yes(x.worth(v, 0, 5)));
            Twins.changesNothing("b " + v, 0, x -> Twins.yes(x.worth(0, v, 5)));
            Twins.changesNothing("b " + v, 0, x -> Twins.yes(x.worth(5, v, 5)));
        }
    }

    static void p29From0To99() {
        for (int v : new int[] {0, 1, 99}) {
            BasketEnvoys x = new BasketEnvoys();
            due("worth " + v, x.worth(0, 0, v), true);
            due("sent", x.sent(1, 0), v);
        }
        for (int v : new int[] {-1, LEAST, 100, MOST}) {
            Twins.changesNothing("worth " + v, 0, x -> Twins.yes(x.worth(0, 1, v)));
        }
    }

    static void p29OfAWithBIsNotOfBWithA() {
        BasketEnvoys x = new BasketEnvoys();
        x.worth(0, 1, 9);
        due("most", x.sent(2, 0), 9);
        due("how", x.sent(2, 1), 10);
        x.worth(1, 1, 10);
        due("most", x.sent(2, 0), 10);
        due("how", x.sent(2, 1), 1);
    }

    static void p29TellsThatWorthAlone() {
        tellsThoughtAlone("worth", 1, x -> Twins.yes(x.worth(3, 3, 50)));
    }

    // ---- 30: sent

    static void p30From1To6() {
        due("1", new BasketEnvoys().sent(1, 0), 0);
        due("6", new BasketEnvoys().sent(6, 0), 0);
        for (int n : new int[] {0, -1, LEAST, 7, MOST}) {
            Twins.changesNothing("n " + n, -1, x -> x.sent(n, 0));
            Twins.changesNothing("n " + n, -1, x -> x.sent(n, 1));
        }
    }

    static void p30AnotherWhat() {
        for (int what : new int[] {-1, LEAST, 2, MOST}) {
            Twins.changesNothing("what " + what, -1, x -> x.sent(3, what));
        }
    }

    static void p30WorthsAre0AtFirstAndTheLeastRowIsToldOfSeveral() {
        int[] least = {0, 1, 12, 123, 1234, 12345};
        for (int n = 1; n <= 6; n++) {
            due("most", new BasketEnvoys().sent(n, 0), 0);
            due("how", new BasketEnvoys().sent(n, 1), least[n - 1]);
        }
    }

    static void p30OfSeveralTheLeast() {
        BasketEnvoys x = new BasketEnvoys();
        x.worth(2, 0, 7);
        due("most", x.sent(3, 0), 7);
        due("how", x.sent(3, 1), 120);
        x.worth(0, 2, 0);
        due("how", x.sent(4, 1), 1203);
    }

    static void p30OfTheFirstNAlone() {
        BasketEnvoys x = new BasketEnvoys();
        x.worth(0, 5, 99);
        x.worth(5, 0, 99);
        x.worth(4, 4, 50);
        due("5", x.sent(5, 0), 50);
        due("6", x.sent(6, 0), 248);
        due("how", x.sent(6, 1), 512340);
    }

    static void p30EachToAnotherOne() {
        BasketEnvoys x = new BasketEnvoys();
        for (int a = 0; a < 6; a++) {
            x.worth(a, 3, 99);
            x.worth(a, 5, 98);
        }
        due("two of them", x.sent(6, 0), 197);
        due("most of six", x.sent(4, 0), 99);
    }

    static void p30AllOf99() {
        BasketEnvoys x = new BasketEnvoys();
        for (int a = 0; a < 6; a++) {
            for (int b = 0; b < 6; b++) {
                x.worth(a, b, 99);
            }
        }
        due("most", x.sent(6, 0), 594);
        due("how", x.sent(6, 1), 12345);
        for (int a = 0; a < 6; a++) {
            x.worth(a, 5 - a, 99);
            for (int b = 0; b < 6; b++) {
                x.worth(a, b, a + b == 5 ? 99 : 98);
            }
        }
        due("the highest row", x.sent(6, 1), 543210);
    }

    static void p30AskingChangesNothing() {
        Twins.changesNothing("most", 9, x -> x.sent(2, 0));
        Twins.changesNothing("how", 10, x -> x.sent(2, 1));
    }

    // ---- 31: load

    static void p31WeightFrom1To30() {
        due("1", new BasketEnvoys().load(1, 5), 1);
        due("30", new BasketEnvoys().load(30, 5), 1);
        for (int weight : new int[] {0, -2, LEAST, 31, MOST}) {
            Twins.changesNothing("weight " + weight, -1, x -> x.load(weight, 5));
        }
    }

    static void p31WorthFrom0To99() {
        due("0", new BasketEnvoys().load(5, 0), 1);
        due("99", new BasketEnvoys().load(5, 99), 1);
        for (int worth : new int[] {-1, LEAST, 100, MOST}) {
            Twins.changesNothing("worth " + worth, -1, x -> x.load(5, worth));
        }
    }

    private static BasketEnvoys tenLoads() {
        BasketEnvoys x = new BasketEnvoys();
        for (int i = 1; i <= 10; i++) {
            x.load(i, 10 * i - 1);
        }
        return x;
    }

    static void p31TenAndNotEleven() {
        BasketEnvoys x = new BasketEnvoys();
        for (int i = 1; i <= 10; i++) {
            due("how many", x.load(i, i), i);
        }
        Twins.changesNothing("the eleventh", BoundsOfTablesTest::tenLoads, -1, y -> y.load(1, 99));
    }

    static void p31NoneEmptiesThemWhateverTheWorth() {
        for (int worth : new int[] {-1, LEAST, 0, 100, MOST}) {
            BasketEnvoys x = tenLoads();
            due("none", x.load(-1, worth), 0);
            due("most", x.carried(200, 0), 0);
            due("again", x.load(1, 1), 1);
        }
        due("of none", new BasketEnvoys().load(-1, 0), 0);
    }

    static void p31TellsTheLoadsAlone() {
        tellsThoughtAlone("load", 3, x -> x.load(1, 1));
        tellsThoughtAlone("none", 0, x -> x.load(-1, 1));
    }

    // ---- 32: carried

    static void p32From0To200() {
        BasketEnvoys x = tenLoads();
        due("0", x.carried(0, 0), 0);
        due("0", x.carried(0, 1), 0);
        due("200", x.carried(200, 0), 540);
        due("200", x.carried(200, 1), 1023);
        for (int w : new int[] {-1, LEAST, 201, MOST}) {
            Twins.changesNothing("w " + w, -1, y -> y.carried(w, 0));
            Twins.changesNothing("w " + w, -1, y -> y.carried(w, 1));
        }
    }

    static void p32AnotherWhat() {
        for (int what : new int[] {-1, LEAST, 2, MOST}) {
            Twins.changesNothing("what " + what, -1, x -> x.carried(5, what));
        }
    }

    static void p32NoneToldIs0And0() {
        for (int w : new int[] {0, 1, 200}) {
            due("most", new BasketEnvoys().carried(w, 0), 0);
            due("which", new BasketEnvoys().carried(w, 1), 0);
        }
    }

    static void p32AtMostW() {
        for (int weight : new int[] {1, 29, 30}) {
            BasketEnvoys x = new BasketEnvoys();
            x.load(weight, 7);
            due("below", x.carried(weight - 1, 0), 0);
            due("just so", x.carried(weight, 0), 7);
            due("above", x.carried(weight + 1, 0), 7);
        }
        BasketEnvoys x = new BasketEnvoys();
        for (int i = 0; i < 7; i++) {
            x.load(i < 6 ? 30 : 20, 9);
        }
        due("199", x.carried(199, 0), 54);
        due("200", x.carried(200, 0), 63);
    }

    static void p32OfSeveralTheLeastSet() {
        BasketEnvoys x = new BasketEnvoys();
        x.load(2, 5);
        x.load(2, 5);
        x.load(2, 5);
        x.load(4, 10);
        due("one", x.carried(2, 1), 1);
        due("two or the fourth", x.carried(4, 1), 3);
        due("three, or one and the fourth", x.carried(6, 1), 7);
        x.load(1, 0);
        due("without one that is worth nothing", x.carried(200, 1), 15);
    }

    static void p32TheTenthToo() {
        BasketEnvoys x = new BasketEnvoys();
        for (int i = 0; i < 10; i++) {
            x.load(30, i == 9 ? 99 : 1);
        }
        due("which", x.carried(30, 1), 512);
        due("most", x.carried(30, 0), 99);
        due("which", x.carried(60, 1), 513);
    }

    static void p32AskingChangesNothing() {
        Twins.changesNothing("most", 17, x -> x.carried(8, 0));
        Twins.changesNothing("which", 3, x -> x.carried(8, 1));
    }

    // ---- 33: promise

    static void p33About0To7() {
        due("0 and 7", new BasketEnvoys().promise(0, 7, 3), 1);
        due("7 and 0", new BasketEnvoys().promise(7, 0, 0), 1);
        for (int v : new int[] {-2, LEAST, 8, MOST}) {
            Twins.changesNothing("a " + v, -1, x -> x.promise(v, 0, 3));
            Twins.changesNothing("b " + v, -1, x -> x.promise(0, v, 3));
        }
        Twins.changesNothing("b NONE", -1, x -> x.promise(0, -1, 3));
    }

    static void p33TwoUnlikeOnes() {
        for (int a = 0; a < 8; a++) {
            for (int b = 0; b < 8; b++) {
                due(a + " and " + b, new BasketEnvoys().promise(a, b, 3), a == b ? -1 : 1);
            }
        }
        Twins.changesNothing("alike", -1, x -> x.promise(0, 0, 3));
        Twins.changesNothing("alike", -1, x -> x.promise(7, 7, 0));
    }

    static void p33How0To3() {
        int[] least = {0, 0, 0, 1};
        for (int how = 0; how < 4; how++) {
            BasketEnvoys x = new BasketEnvoys();
            due("how " + how, x.promise(0, 1, how), 1);
            due("ways", x.kept(0), 192);
            due("least", x.kept(1), least[how]);
        }
        for (int how : new int[] {-1, LEAST, 4, MOST}) {
            Twins.changesNothing("how " + how, -1, x -> x.promise(0, 1, how));
        }
    }

    static void p33Bit0IsForAAndBit1ForB() {
        int[] out = {3, 2, 1, 0};
        // what must not be, of (a, b) as a set: 0: both kept; 1: b alone; 2: a alone; 3: none
        for (int how = 0; how < 4; how++) {
            for (int set = 0; set < 4; set++) {
                BasketEnvoys x = new BasketEnvoys();
                x.promise(2, 5, how);
                // and so that just this set is left of these two
                x.promise(2, 6, (set & 1) == 1 ? 1 : 0);
                x.promise(2, 6, (set & 1) == 1 ? 3 : 2);
                x.promise(5, 6, (set & 2) == 2 ? 1 : 0);
                x.promise(5, 6, (set & 2) == 2 ? 3 : 2);
                due("how " + how + ", set " + set, x.kept(0), set == out[how] ? 0 : 64);
            }
        }
    }

    private static BasketEnvoys twelvePromises() {
        BasketEnvoys x = new BasketEnvoys();
        for (int i = 0; i < 12; i++) {
            x.promise(i % 8, (i + 1) % 8, 2);
        }
        return x;
    }

    static void p33TwelveAndNotThirteen() {
        BasketEnvoys x = new BasketEnvoys();
        for (int i = 1; i <= 12; i++) {
            due("how many", x.promise(i % 8, (i + 1) % 8, 2), i);
        }
        Twins.changesNothing("the thirteenth", BoundsOfTablesTest::twelvePromises, -1, y -> y.promise(0, 1, 3));
    }

    static void p33TheTwelfthCounts() {
        BasketEnvoys x = new BasketEnvoys();
        for (int i = 0; i < 11; i++) {
            x.promise(0, 1, 3);
        }
        due("eleven", x.kept(0), 192);
        x.promise(2, 3, 3);
        due("twelve", x.kept(0), 144);
    }

    static void p33NoneEmptiesThemWhateverTheOthers() {
        for (int v : new int[] {-1, LEAST, 0, 8, MOST}) {
            BasketEnvoys x = twelvePromises();
            due("none", x.promise(-1, v, v), 0);
            due("ways", x.kept(0), 256);
            due("again", x.promise(0, 1, 3), 1);
        }
        due("of none", new BasketEnvoys().promise(-1, 0, 0), 0);
    }

    static void p33TellsThePromisesAlone() {
        tellsThoughtAlone("promise", 2, x -> x.promise(0, 7, 1));
        tellsThoughtAlone("none", 0, x -> x.promise(-1, 7, 1));
    }

    // ---- 34: kept

    static void p34AnotherWhat() {
        for (int what : new int[] {-1, LEAST, 3, MOST}) {
            Twins.changesNothing("what " + what, -1, x -> x.kept(what));
        }
    }

    static void p34NoneToldIsAllWays() {
        due("ways", new BasketEnvoys().kept(0), 256);
        due("least", new BasketEnvoys().kept(1), 0);
        due("sure", new BasketEnvoys().kept(2), 0);
    }

    static void p34NoWay() {
        BasketEnvoys x = new BasketEnvoys();
        for (int how = 0; how < 4; how++) {
            x.promise(0, 7, how);
        }
        due("ways", x.kept(0), 0);
        due("least", x.kept(1), -1);
        due("sure", x.kept(2), 0);
    }

    static void p34OneWay() {
        BasketEnvoys x = new BasketEnvoys();
        for (int i = 0; i < 8; i++) {
            x.promise(i, (i + 1) % 8, 2);
        }
        due("all or none", x.kept(0), 2);
        due("none is the least", x.kept(1), 0);
        due("none is sure", x.kept(2), 0);
        x.promise(0, 7, 3);
        due("all alone", x.kept(0), 1);
        due("least", x.kept(1), 255);
        due("sure", x.kept(2), 255);
    }

    static void p34TheLeastAsANumber() {
        BasketEnvoys x = new BasketEnvoys();
        x.promise(7, 6, 3);
        due("6 alone", x.kept(1), 64);
        x.promise(6, 0, 2);
        due("with 0", x.kept(1), 65);
        x.promise(6, 1, 2);
        x.promise(6, 2, 2);
        x.promise(6, 3, 2);
        x.promise(6, 4, 2);
        x.promise(6, 5, 2);
        due("with all below", x.kept(1), 127);
        x.promise(0, 1, 0);
        due("so 7 alone", x.kept(1), 128);
        due("sure", x.kept(2), 128);
    }

    static void p34AskingChangesNothing() {
        Twins.changesNothing("ways", 192, x -> x.kept(0));
        Twins.changesNothing("least", 1, x -> x.kept(1));
        Twins.changesNothing("sure", 0, x -> x.kept(2));
    }

    // ---- 35: hat

    static void p35Widow0To7() {
        due("0", new BasketEnvoys().hat(0, 1), true);
        due("7", new BasketEnvoys().hat(7, 1), true);
        for (int widow : new int[] {-1, LEAST, 8, MOST}) {
            Twins.changesNothing("widow " + widow, 0, x -> Twins.yes(x.hat(widow, 1)));
        }
    }

    static void p35SetsOfHats0To7() {
        due("none", new BasketEnvoys().hat(0, 0), true);
        due("all", new BasketEnvoys().hat(0, 255), true);
        for (int hats : new int[] {-1, LEAST, 256, MOST}) {
            Twins.changesNothing("hats " + hats, 0, x -> Twins.yes(x.hat(0, hats)));
        }
    }

    static void p35ToldAnewTheOldSetIsGone() {
        BasketEnvoys x = new BasketEnvoys();
        x.hat(0, 255);
        due("hers", x.hats(1), 1);
        x.hat(0, 254);
        due("not hers", x.hats(1), 0);
    }

    static void p35TellsThatSetAlone() {
        tellsThoughtAlone("hat", 1, x -> Twins.yes(x.hat(1, 255)));
    }

    // ---- 36: hats

    static void p36From1To8() {
        for (int n : new int[] {0, -1, LEAST, 9, MOST}) {
            Twins.changesNothing("n " + n, -1, x -> x.hats(n));
        }
        BasketEnvoys x = new BasketEnvoys();
        for (int i = 0; i < 8; i++) {
            x.hat(i, 255);
        }
        due("1", x.hats(1), 1);
        due("8", x.hats(8), 40320);
    }

    static void p36NoneAtFirst() {
        for (int n = 1; n <= 8; n++) {
            due("n " + n, new BasketEnvoys().hats(n), 0);
        }
    }

    static void p36TheFirstNOfBoth() {
        BasketEnvoys x = new BasketEnvoys();
        for (int i = 0; i < 8; i++) {
            x.hat(i, 1 << (7 - i));
        }
        for (int n = 1; n < 8; n++) {
            due("hats beyond " + n, x.hats(n), 0);
        }
        due("all eight", x.hats(8), 1);
    }

    static void p36EachWidowOneOfHerOwn() {
        BasketEnvoys x = new BasketEnvoys();
        x.hat(0, 1);
        x.hat(1, 1);
        due("one hat for two", x.hats(2), 0);
        x.hat(1, 3);
        due("one way", x.hats(2), 1);
        x.hat(0, 3);
        due("two ways", x.hats(2), 2);
    }

    static void p36AskingChangesNothing() {
        Twins.changesNothing("hats", 1, x -> x.hats(2));
    }
}
