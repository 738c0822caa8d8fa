/** Promises 37 to 43, sentence by sentence: borders, cloths, interpreters, heaps. */
public final class BoundsOfMapsTest {
    private static final int LEAST = Integer.MIN_VALUE;
    private static final int MOST = Integer.MAX_VALUE;

    public static void main(String[] args) {
        Sentences.run(BoundsOfMapsTest.class, 37, 38, 39, 40, 41, 42, 43);
    }

    private static void due(String what, long got, long want) {
        Sentences.due(what, got, want);
    }

    private static void due(String what, boolean got, boolean want) {
        Sentences.due(what, got, want);
    }

    /** The call tells something for thought, and changes nothing else. */
    private static void tellsThoughtAlone(String what, long want, Twins.Call call) {
        Twins.alikeBut(what, Twins::full, () -> {
            BasketEnvoys x = Twins.full();
            due(what, call.on(x), want);
            return x;
        }, "what is thought, what is told");
    }

    // ---- 37: border

    static void p37Between0And7() {
        due("0 and 7", new BasketEnvoys().border(0, 7), 1);
        due("7 and 0", new BasketEnvoys().border(7, 0), 1);
        for (int v : new int[] {-2, LEAST, 8, MOST}) {
            Twins.changesNothing("a " + v, -1, x -> x.border(v, 1));
            Twins.changesNothing("b " + v, -1, x -> x.border(1, v));
        }
        Twins.changesNothing("b NONE", -1, x -> x.border(1, -1));
    }

    static void p37AlikeCantBe() {
        for (int a = 0; a < 8; a++) {
            for (int b = 0; b < 8; b++) {
                due(a + " and " + b, new BasketEnvoys().border(a, b), a == b ? -1 : 1);
            }
        }
        Twins.changesNothing("alike", -1, x -> x.border(0, 0));
        Twins.changesNothing("alike", -1, x -> x.border(7, 7));
    }

    private static BasketEnvoys fourteenBorders() {
        BasketEnvoys x = new BasketEnvoys();
        for (int i = 0; i < 14; i++) {
            x.border(i % 7, 7);
        }
        return x;
    }

    static void p37FourteenAndNotFifteen() {
        BasketEnvoys x = new BasketEnvoys();
        for (int i = 1; i <= 14; i++) {
            due("how many", x.border(i % 7, 7), i);
        }
        Twins.changesNothing("the fifteenth", BoundsOfMapsTest::fourteenBorders, -1, y -> y.border(0, 1));
    }

    static void p37TheFourteenthCounts() {
        BasketEnvoys x = new BasketEnvoys();
        for (int i = 0; i < 13; i++) {
            x.border(0, 1);
        }
        due("thirteen", x.map(2), 128);
        x.border(1, 2);
        due("fourteen", x.map(2), 64);
    }

    static void p37NoneEmptiesThemWhateverTheOther() {
        for (int v : new int[] {-1, LEAST, 0, 8, MOST}) {
            BasketEnvoys x = fourteenBorders();
            due("before", x.map(2), 2);
            due("none", x.border(-1, v), 0);
            due("map", x.map(2), 256);
            due("again", x.border(0, 1), 1);
        }
        due("of none", new BasketEnvoys().border(-1, 0), 0);
    }

    static void p37TellsTheBordersAlone() {
        tellsThoughtAlone("border", 2, x -> x.border(0, 7));
        tellsThoughtAlone("none", 0, x -> x.border(-1, 7));
    }

    // ---- 38: map

    static void p38From0To5AndNone() {
        int[] all = {0, 1, 256, 6561, 65536, 390625};
        for (int k = 0; k <= 5; k++) {
            due("by " + k, new BasketEnvoys().map(k), all[k]);
        }
        for (int k : new int[] {-2, LEAST, 6, MOST}) {
            Twins.changesNothing("k " + k, -1, x -> x.map(k));
        }
    }

    static void p38NoBordersOneColour() {
        due("fewest", new BasketEnvoys().map(-1), 1);
    }

    static void p38OneBorderTwoColours() {
        for (int a = 0; a < 8; a++) {
            for (int b = 0; b < 8; b++) {
                if (a != b) {
                    BasketEnvoys x = new BasketEnvoys();
                    x.border(a, b);
                    due("fewest", x.map(-1), 2);
                    due("by one", x.map(1), 0);
                    due("by two", x.map(2), 128);
                }
            }
        }
    }

    static void p38FewestFrom1To5() {
        for (int n = 2; n <= 5; n++) {
            BasketEnvoys x = new BasketEnvoys();
            int ways = 1;
            for (int a = 8 - n; a < 8; a++) {
                for (int b = 8 - n; b < a; b++) {
                    x.border(a, b);
                }
                ways *= 5 - (a - 8 + n);
            }
            for (int i = n; i < 8; i++) {
                ways *= 5;
            }
            due("fewest of " + n, x.map(-1), n);
            due("by fewer", x.map(n - 1), 0);
            due("by five", x.map(5), ways);
        }
    }

    static void p38AskingChangesNothing() {
        Twins.changesNothing("by 3", 4374, x -> x.map(3));
        Twins.changesNothing("fewest", 2, x -> x.map(-1));
    }

    // ---- 39: cloth

    static void p39Row0And1() {
        due("0", new BasketEnvoys().cloth(0, 5), 1);
        due("1", new BasketEnvoys().cloth(1, 5), 1);
        for (int row : new int[] {-1, LEAST, 2, MOST}) {
            for (int v : new int[] {-1, 0, 9}) {
                Twins.changesNothing("row " + row, -1, x -> x.cloth(row, v));
            }
        }
    }

    static void p39From0To9() {
        for (int row = 0; row < 2; row++) {
            int r = row;
            due("0", new BasketEnvoys().cloth(row, 0), 1);
            due("9", new BasketEnvoys().cloth(row, 9), 1);
            for (int v : new int[] {-2, LEAST, 10, MOST}) {
                Twins.changesNothing("cloth " + v, -1, x -> x.cloth(r, v));
            }
        }
    }

    private static BasketEnvoys twelveCloths() {
        BasketEnvoys x = new BasketEnvoys();
        for (int i = 0; i < 12; i++) {
            x.cloth(0, i % 10);
            x.cloth(1, i % 10);
        }
        return x;
    }

    static void p39TwelveAndNotThirteen() {
        for (int row = 0; row < 2; row++) {
            int r = row;
            BasketEnvoys x = new BasketEnvoys();
            for (int i = 1; i <= 12; i++) {
                due("how many", x.cloth(row, i % 10), i);
                due("of the shortest", x.cloths(1), i);
            }
            Twins.changesNothing("the thirteenth", BoundsOfMapsTest::twelveCloths, -1, y -> y.cloth(r, 5));
        }
    }

    static void p39NoneEmptiesThatRow() {
        for (int row = 0; row < 2; row++) {
            BasketEnvoys x = twelveCloths();
            due("empty", x.cloth(row, -1), 0);
            due("the other one", x.cloths(1), 12);
            due("none is both's", x.cloths(0), 0);
            due("again", x.cloth(row, 3), 1);
            due("an empty one", new BasketEnvoys().cloth(row, -1), 0);
        }
    }

    static void p39TellsThatRowAlone() {
        tellsThoughtAlone("cloth 0", 2, x -> x.cloth(0, 7));
        tellsThoughtAlone("cloth 1", 3, x -> x.cloth(1, 7));
        tellsThoughtAlone("none", 0, x -> x.cloth(1, -1));
    }

    // ---- 40: cloths

    private static BasketEnvoys cloths(String first, String second) {
        BasketEnvoys x = new BasketEnvoys();
        for (int i = 0; i < first.length(); i++) {
            x.cloth(0, first.charAt(i) - '0');
        }
        for (int i = 0; i < second.length(); i++) {
            x.cloth(1, second.charAt(i) - '0');
        }
        return x;
    }

    private static void laid(String first, String second, int most, int shortest, int few) {
        due(first + " and " + second + " most", cloths(first, second).cloths(0), most);
        due(first + " and " + second + " shortest", cloths(first, second).cloths(1), shortest);
        due(first + " and " + second + " few", cloths(first, second).cloths(2), few);
        due(second + " and " + first + " most", cloths(second, first).cloths(0), most);
        due(second + " and " + first + " shortest", cloths(second, first).cloths(1), shortest);
        due(second + " and " + first + " few", cloths(second, first).cloths(2), few);
    }

    static void p40AnotherWhat() {
        for (int what : new int[] {-1, LEAST, 3, MOST}) {
            Twins.changesNothing("what " + what, -1, x -> x.cloths(what));
        }
    }

    static void p40BothEmpty() {
        laid("", "", 0, 0, 0);
    }

    static void p40OneEmpty() {
        laid("", "5", 0, 1, 1);
        laid("", "123456789012", 0, 12, 12);
    }

    static void p40BothAlike() {
        laid("5", "5", 1, 1, 0);
        laid("5", "55", 1, 2, 1);
        laid("56", "5566", 2, 4, 2);
        laid("123456789012", "123456789012", 12, 12, 0);
        laid("000000000000", "000000000000", 12, 12, 0);
    }

    static void p40NothingAlike() {
        laid("5", "6", 0, 2, 1);
        laid("000000000000", "999999999999", 0, 24, 12);
        laid("1", "999999999999", 0, 13, 12);
    }

    static void p40OnePutInOneOutOneMadeAnotherOne() {
        laid("12345", "1245", 4, 5, 1);
        laid("12345", "12945", 4, 6, 1);
        laid("12345", "23451", 4, 6, 2);
        laid("12", "21", 1, 3, 2);
        laid("123", "321", 1, 5, 2);
    }

    static void p40TheFirstAndTheLastOfTwelve() {
        laid("199999999992", "188888888882", 2, 22, 10);
        laid("1", "222222222221", 1, 12, 11);
        laid("1", "122222222222", 1, 12, 11);
    }

    static void p40InWhateverOrderAsked() {
        int[] dues = {0, 4, 2};
        for (int order = 0; order < 27; order++) {
            BasketEnvoys x = cloths("12", "34");
            for (int what : new int[] {order % 3, order / 3 % 3, order / 9}) {
                due("what " + what, x.cloths(what), dues[what]);
            }
        }
    }

    static void p40AskingChangesNothing() {
        Twins.changesNothing("most", 1, x -> x.cloths(0));
        Twins.changesNothing("shortest", 2, x -> x.cloths(1));
        Twins.changesNothing("few", 1, x -> x.cloths(2));
    }

    // ---- 41: interpreter

    static void p41FiveDigits0To4EachOnce() {
        BasketEnvoys x = new BasketEnvoys();
        for (int row = 0; row <= 100000; row++) {
            x = row % 400 == 0 ? new BasketEnvoys() : x;
            String digits = (row < 10000 ? "0" : "") + row;
            boolean canBe = digits.length() == 5 && digits.chars().distinct().count() == 5
                && digits.chars().allMatch(c -> c <= '4');
            due("row " + row, x.interpreter(row), canBe ? 1 : -1);
            if (canBe) {
                x.interpreter(-1);
            }
        }
    }

    static void p41TheLeastAndTheGreatest() {
        due("01234", new BasketEnvoys().interpreter(1234), 1);
        due("43210", new BasketEnvoys().interpreter(43210), 1);
        for (int row : new int[] {-2, LEAST, 0, 234, 1233, 1235, 12345, 43201 + 10, 43211, 54321, 98765, 101234, 143210, 99999, 100000,
            MOST, 1234 + 100000, -1234, -43210}) {
            Twins.changesNothing("row " + row, -1, x -> x.interpreter(row));
        }
    }

    private static BasketEnvoys sixInterpreters() {
        BasketEnvoys x = new BasketEnvoys();
        for (int i = 0; i < 6; i++) {
            x.interpreter(12340);
        }
        return x;
    }

    static void p41SixAndNotSeven() {
        BasketEnvoys x = new BasketEnvoys();
        for (int i = 1; i <= 6; i++) {
            due("how many", x.interpreter(12340), i);
            due("becomes", x.word(0), i % 5);
        }
        Twins.changesNothing("the seventh", BoundsOfMapsTest::sixInterpreters, -1, y -> y.interpreter(43210));
    }

    static void p41NoneEmptiesThem() {
        BasketEnvoys x = sixInterpreters();
        due("none", x.interpreter(-1), 0);
        due("word", x.word(0), 0);
        due("again", x.interpreter(12340), 1);
        due("of none", new BasketEnvoys().interpreter(-1), 0);
    }

    static void p41TellsTheInterpretersAlone() {
        tellsThoughtAlone("interpreter", 2, x -> x.interpreter(43210));
        tellsThoughtAlone("none", 0, x -> x.interpreter(-1));
    }

    // ---- 42: word

    static void p42Word0To4AndNone() {
        BasketEnvoys x = new BasketEnvoys();
        x.interpreter(40312);
        int[] made = {4, 0, 3, 1, 2};
        for (int w = 0; w < 5; w++) {
            due("word " + w, x.word(w), made[w]);
        }
        for (int w : new int[] {-2, LEAST, 5, 9, MOST}) {
            Twins.changesNothing("word " + w, -1, y -> y.word(w));
        }
    }

    static void p42NoneTold() {
        for (int w = 0; w < 5; w++) {
            due("word " + w, new BasketEnvoys().word(w), w);
        }
        due("rounds", new BasketEnvoys().word(-1), 1);
    }

    static void p42OneBehindAnother() {
        BasketEnvoys x = new BasketEnvoys();
        x.interpreter(12034);
        x.interpreter(10234);
        int[] made = {0, 2, 1, 3, 4};
        for (int w = 0; w < 5; w++) {
            due("word " + w, x.word(w), made[w]);
        }
        BasketEnvoys y = new BasketEnvoys();
        y.interpreter(10234);
        y.interpreter(12034);
        int[] other = {2, 1, 0, 3, 4};
        for (int w = 0; w < 5; w++) {
            due("word " + w, y.word(w), other[w]);
        }
    }

    static void p42RoundsFrom1To6() {
        int[] rows = {1234, 10234, 12034, 12304, 12340, 12043};
        for (int i = 0; i < rows.length; i++) {
            BasketEnvoys x = new BasketEnvoys();
            x.interpreter(rows[i]);
            due("rounds of " + rows[i], x.word(-1), i + 1);
        }
        BasketEnvoys back = new BasketEnvoys();
        back.interpreter(12340);
        back.interpreter(40123);
        due("there and back", back.word(-1), 1);
    }

    static void p42AskingChangesNothing() {
        Twins.changesNothing("word", 4, x -> x.word(3));
        Twins.changesNothing("rounds", 2, x -> x.word(-1));
    }

    // ---- 43: silence

    static void p43HeapsFrom0To7() {
        BasketEnvoys x = new BasketEnvoys();
        due("7 of the first", x.silence(7, 0, 0, false), 7);
        due("7 of the second", x.silence(0, 7, 0, false), 107);
        due("7 of the third", x.silence(0, 0, 7, false), 207);
        due("all", x.silence(7, 7, 7, false), 7);
        for (boolean pass : new boolean[] {false, true}) {
            for (int v : new int[] {-1, LEAST, 8, MOST}) {
                Twins.changesNothing("first " + v, -1, y -> y.silence(v, 1, 1, pass));
                Twins.changesNothing("second " + v, -1, y -> y.silence(1, v, 1, pass));
                Twins.changesNothing("third " + v, -1, y -> y.silence(1, 1, v, pass));
            }
        }
    }

    static void p43NothingLies() {
        due("without the pass", new BasketEnvoys().silence(0, 0, 0, false), -1);
        due("with it", new BasketEnvoys().silence(0, 0, 0, true), -1);
    }

    static void p43WhoBeginsLoses() {
        due("two alike", new BasketEnvoys().silence(5, 5, 0, false), -1);
        due("1 2 3", new BasketEnvoys().silence(1, 2, 3, false), -1);
        due("2 1 with the pass", new BasketEnvoys().silence(2, 1, 0, true), -1);
    }

    static void p43ThePassIs300() {
        due("second and third alike", new BasketEnvoys().silence(0, 1, 1, true), 300);
        due("first and third alike", new BasketEnvoys().silence(1, 0, 1, true), 300);
        due("two alike", new BasketEnvoys().silence(1, 1, 0, true), 300);
        due("without it", new BasketEnvoys().silence(1, 1, 0, false), -1);
    }

    static void p43TheLeastOfSeveral() {
        due("1 1 1", new BasketEnvoys().silence(1, 1, 1, false), 1);
        due("0 1 0", new BasketEnvoys().silence(0, 1, 0, false), 101);
        due("0 0 1", new BasketEnvoys().silence(0, 0, 1, false), 201);
        due("3 3 3", new BasketEnvoys().silence(3, 3, 3, false), 3);
        due("1 with the pass", new BasketEnvoys().silence(1, 0, 0, true), 1);
        due("the third alone", new BasketEnvoys().silence(1, 2, 4, false), 201);
    }

    static void p43EachHeapAsTheOthersAre() {
        for (int a = 0; a < 8; a++) {
            for (int b = 0; b < 8; b++) {
                for (int c = 0; c < 8; c++) {
                    boolean loses = (a ^ b ^ c) == 0;
                    due(a + " " + b + " " + c, new BasketEnvoys().silence(a, b, c, false) == -1, loses);
                }
            }
        }
    }

    static void p43AskedBehindAnyOtherQuestion() {
        Twins.Call[] questions = {
            x -> x.goes(3, 3), x -> x.peace(0), x -> x.alike(0), x -> x.lightest(0, 0), x -> x.lightest(0, 1), x -> x.heard(0, 0),
            x -> x.heard(0, 1), x -> x.signs(), x -> x.pins(9, 1), x -> x.tables(0), x -> x.tables(1), x -> x.tables(2),
            x -> x.stand(7, 3, 0), x -> x.stand(7, 3, 1), x -> x.stand(7, 3, 2), x -> x.sent(3, 0), x -> x.sent(3, 1),
            x -> x.carried(9, 0), x -> x.carried(9, 1), x -> x.kept(0), x -> x.kept(1), x -> x.kept(2), x -> x.hats(2),
            x -> x.map(3), x -> x.map(-1), x -> x.cloths(0), x -> x.cloths(1), x -> x.cloths(2), x -> x.word(3), x -> x.word(-1),
            x -> x.silence(3, 4, 5, true), x -> x.of(0, 7), x -> x.of(0, 8), x -> x.of(0, 9),
        };
        for (int i = 0; i < questions.length; i++) {
            for (int j = 0; j < questions.length; j++) {
                BasketEnvoys x = Twins.full();
                questions[i].on(x);
                due("question " + j + " behind " + i, questions[j].on(x), questions[j].on(Twins.full()));
            }
        }
    }

    static void p43AskingChangesNothing() {
        Twins.changesNothing("silence", 300, x -> x.silence(1, 1, 0, true));
        Twins.changesNothing("silence", 7, x -> x.silence(7, 7, 7, false));
    }
}
