/** Promises 1 to 6, 12, 13 and 46: the town, its powers and mutes, what is done by hand. */
public final class EnvoysTest {
    private static final Checks CHECKS = new Checks();

    private static void due(String what, long got, long want) {
        CHECKS.due(what, got, want);
    }

    private static void due(String what, boolean got, boolean want) {
        CHECKS.due(what, got, want);
    }

    public static void main(String[] args) {
        newObject();
        states();
        powers();
        mutes();
        settings();
        hands();
        pricks();
        ofMutes();
        ofPowers();
        CHECKS.finish();
    }

    private static void newObject() {
        BasketEnvoys x = new BasketEnvoys();
        for (int what = -2; what <= 15; what++) {
            int want = what == 2 ? 10 : what < 0 || what > 13 ? -1 : 0;
            due("P1, P46 look " + what, x.look(what), want);
        }
        due("P1 none", BasketEnvoys.NONE, -1);
        due("P1 no mute", x.of(0, 0), -2);
        due("P1 no power", x.powerOf(0, 0), -2);
        due("P1 fault", x.fault(0), 0);
        due("P1 nothing undone", x.undo(), false);
        due("P1 no image", x.image(false), false);
        due("P46 least", x.look(Integer.MIN_VALUE), -1);
        due("P46 most", x.look(Integer.MAX_VALUE), -1);
    }

    private static void states() {
        BasketEnvoys x = new BasketEnvoys();
        due("P2 first", x.state(77), 0);
        due("P2 second", x.state(-5), 77);
        due("P2 as it is", x.look(8), -5);
        due("P2 third", x.state(Integer.MAX_VALUE), -5);
        due("P2 most", x.look(8), Integer.MAX_VALUE);
    }

    private static void powers() {
        BasketEnvoys x = new BasketEnvoys();
        due("P3 below", x.power(-1), -1);
        due("P3 above", x.power(100), -1);
        due("P3 none came", x.look(0), 0);
        for (int i = 0; i < 10; i++) {
            due("P3 number", x.power(i == 9 ? 99 : i), i);
        }
        due("P3 eleventh", x.power(5), -1);
        due("P3 ten", x.look(0), 10);
        due("P3 trust", x.powerOf(9, 0), 99);
        due("P3 trust 0", x.powerOf(0, 0), 0);
        due("P3 step", x.powerOf(3, 1), 0);
        due("P3 nods", x.powerOf(3, 2), 0);
        due("P3 treaties", x.powerOf(3, 3), 0);
    }

    private static void mutes() {
        BasketEnvoys x = new BasketEnvoys();
        due("P4 skill", x.mute(-1, 0, false), -1);
        due("P4 skill", x.mute(10, 0, false), -1);
        due("P4 grief", x.mute(0, -1, false), -1);
        due("P4 grief", x.mute(0, 10, false), -1);
        for (int i = 0; i < 14; i++) {
            due("P4 number", x.mute(i % 10, 9 - i % 10, i % 2 == 1), i);
        }
        due("P4 fifteenth", x.mute(1, 1, true), -1);
        due("P4 fourteen", x.look(1), 14);
        due("P4 skill told", x.of(13, 0), 3);
        due("P4 grief told", x.of(13, 1), 6);
        due("P4 false told", x.of(13, 2), 1);
        due("P4 true told", x.of(12, 2), 0);
        due("P4 at home", x.of(13, 3), -1);
        due("P4 not known", x.of(13, 4), 0);
        due("P4 basket", x.of(13, 5), 0);
        due("P4 shown", x.of(13, 6), 0);
    }

    private static void settings() {
        BasketEnvoys x = new BasketEnvoys();
        due("P5 no power", x.set(0, 0, 5), false);
        due("P5 no mute", x.set(1, 0, 5), false);
        x.power(1);
        x.mute(1, 1, false);
        int[] most = {99, 9, 9, 1, 99};
        for (int what = 0; what < 5; what++) {
            due("P5 below " + what, x.set(what, 0, -1), false);
            due("P5 above " + what, x.set(what, 0, most[what] + 1), false);
            due("P5 most " + what, x.set(what, 0, most[what]), true);
            due("P5 nobody " + what, x.set(what, 1, 0), what == 4);
            due("P5 nobody below " + what, x.set(what, -1, 0), what == 4);
        }
        due("P5 trust", x.powerOf(0, 0), 99);
        due("P5 skill", x.of(0, 0), 9);
        due("P5 grief", x.of(0, 1), 9);
        due("P5 false", x.of(0, 2), 1);
        due("P5 ports, who not asked", x.look(2), 0);
        due("P5 ports", x.set(4, 12345, 99), true);
        due("P5 ports", x.look(2), 99);
        due("P5 other what", x.set(5, 0, 0), false);
        due("P5 other what", x.set(-1, 0, 0), false);
        due("P5 least", x.set(0, 0, 0), true);
        due("P5 least", x.powerOf(0, 0), 0);
    }

    private static void hands() {
        BasketEnvoys x = new BasketEnvoys();
        x.power(1);
        x.power(2);
        x.mute(5, 0, false);
        x.mute(5, 0, false);
        due("P6 nobody", x.act(0, 2, 0), false);
        due("P6 nobody", x.act(2, -1, 0), false);
        due("P6 no power", x.act(0, 0, 2), false);
        due("P6 no power", x.act(0, 0, -1), false);
        due("P6 not away", x.act(1, 0, 0), false);
        due("P6 nothing to empty", x.act(3, 0, 0), false);
        due("P6 no thing", x.act(2, 0, 12), false);
        due("P6 no thing", x.act(2, 0, -1), false);
        due("P6 nothing done", x.look(13), 0);
        for (int i = 0; i < 8; i++) {
            due("P6 put", x.act(2, 0, i == 7 ? 11 : 0), true);
        }
        due("P6 ninth", x.act(2, 0, 1), false);
        due("P6 basket", x.of(0, 5), 8);
        due("P6 no line for a thing", x.look(7), 0);
        due("P6 empty, v not asked", x.act(3, 0, -77), true);
        due("P6 empty", x.of(0, 5), 0);
        due("P6 empty already", x.act(3, 0, 0), false);
        due("P6 put", x.act(2, 0, 4), true);
        due("P6 send", x.act(0, 0, 1), true);
        due("P6 at", x.of(0, 3), 1);
        due("P6 sent already", x.act(0, 0, 0), false);
        due("P6 put away", x.act(2, 0, 4), false);
        due("P6 empty away", x.act(3, 0, 4), false);
        due("P6 prick away", x.act(4, 0, 4), false);
        due("P6 home", x.act(1, 0, 99), true);
        due("P6 at home", x.of(0, 3), -1);
        due("P6 other what", x.act(5, 0, 0), false);
        due("P6 other what", x.act(-1, 0, 0), false);
        due("P6 lines", x.look(7), 2);
        int[][] book = {{0, 0, 0, 1}, {0, 5, 0, 0}};
        for (int i = 0; i < 2; i++) {
            for (int j = 0; j < 4; j++) {
                due("P6 book " + i + " " + j, x.book(i, j), book[i][j]);
            }
        }
        x.act(0, 0, 1);
        x.days(1);
        due("P6 shown", x.of(0, 6), 1);
        due("P6 home", x.act(1, 0, 0), true);
        due("P6 shown at home", x.of(0, 6), 1);
        due("P6 emptied", x.act(3, 0, 0), true);
        due("P6 shown as it was", x.of(0, 6), 1);
        due("P6 book tells shown", x.book(x.look(7) - 1, 3), 1);
        due("P6 sent again", x.act(0, 0, 0), true);
        due("P6 shown is 0", x.of(0, 6), 0);
        due("P46 away", x.look(5), 1);
        x.act(0, 1, 0);
        due("P46 away both", x.look(5), 3);
        due("P13 both at", x.powerOf(0, 5), 3);
        due("P13 none at", x.powerOf(1, 5), 0);
        x.act(1, 0, 0);
        due("P46 away one", x.look(5), 2);
    }

    // STATE s: the first draw of 1000 is (1664525 s + 1013904223 >>> 8) % 1000.
    private static int draw(int state) {
        return (1664525 * state + 1013904223 >>> 8) % 1000;
    }

    private static void pricks() {
        for (int state = -20; state < 20; state++) {
            BasketEnvoys x = new BasketEnvoys();
            x.mute(5, 9, true);
            x.mute(5, 9, false);
            x.state(state);
            due("P6 nobody cries", x.act(4, 1, 0), true);
            due("P6 no draw at 0", x.look(8), state);
            due("P6 prick", x.act(4, 0, 0), true);
            boolean cries = draw(state) < 450;
            due("P6 a draw", x.look(8), 1664525 * state + 1013904223);
            due("P6 known", x.of(0, 4), cries ? 1 : 0);
            due("P46 known", x.look(6), cries ? 1 : 0);
            due("P14 pricked", x.book(1, 1), 6);
            due("P14 who", x.book(1, 2), 0);
            due("P14 cried", x.book(1, 3), cries ? 1 : 0);
            due("P14 did not cry", x.book(0, 3), 0);
            due("P6 stays at home", x.of(0, 3), -1);
            due("P6 ports", x.look(2), 10);
            due("P6 day", x.look(4), 0);
            Checks.tell(x, 0, "cries 0;");
            due("P6 pricked again", x.act(4, 0, 0), true);
            due("P6 known stays", x.of(0, 4), cries ? 1 : 0);
        }
        BasketEnvoys x = new BasketEnvoys();
        x.mute(0, 0, false);
        Checks.tell(x, 0, "cries 1000;");
        x.state(5);
        due("P6 a draw of sure things, too", x.act(4, 0, 0), true);
        due("P6 drawn", x.look(8), 1664525 * 5 + 1013904223);
        due("P6 cried", x.of(0, 4), 1);
        // the law alone tells, and the draw must be below it
        int d = draw(123);
        for (int chance = d; chance <= d + 1; chance++) {
            BasketEnvoys y = new BasketEnvoys();
            y.mute(0, 0, false);
            Checks.tell(y, 0, "cries " + chance + ";");
            y.state(123);
            y.act(4, 0, 0);
            due("P6 below it", y.of(0, 4), chance - d);
        }
    }

    private static void ofMutes() {
        BasketEnvoys x = new BasketEnvoys();
        x.power(99);
        x.mute(9, 9, true);
        for (int t = 0; t < 8; t++) {
            x.act(2, 0, 11 - t);
        }
        due("P12 no mute", x.of(-1, 0), -2);
        due("P12 no mute", x.of(1, 0), -2);
        due("P12 cries at home", x.of(0, 7), 450);
        due("P12 nods at home", x.of(0, 8), -1);
        due("P12 wins at home", x.of(0, 9), -1);
        for (int i = 0; i < 8; i++) {
            due("P12 thing", x.of(0, 10 + i), 11 - i);
        }
        due("P12 above", x.of(0, 18), -2);
        due("P12 below", x.of(0, -1), -2);
        x.act(0, 0, 0);
        due("P12 nods held", x.of(0, 8), 1000);
        due("P12 wins", x.of(0, 9), 1);
        x.set(3, 0, 0);
        due("P12 cries of who can't", x.of(0, 7), 0);
        x.set(0, 0, 10);
        x.set(1, 0, 3);
        due("P12 nods", x.of(0, 8), 230);
        Checks.tell(x, 0, "nods thing + 100 * shown; wins 2 * thing; cries thing + says + 7 * trust;");
        x.set(0, 0, 1);
        due("P12 next thing", x.of(0, 8), 11);
        due("P12 wins by law", x.of(0, 9), 22);
        due("P12 cries knows no thing", x.of(0, 7), 7);
        Checks.tell(x, 0, "nods thing + 100 * shown; cries 0;");
        x.days(2);
        due("P12 the third thing", x.of(0, 8), 209);
        x.days(6);
        due("P12 none left", x.of(0, 8), -1);
        due("P12 none left", x.of(0, 9), -1);
        due("P12 still away", x.of(0, 3), 0);
        Checks.tell(x, 0, "nods 0 - 1; wins 1000; cries 0 - 5;");
        x.act(1, 0, 0);
        x.act(0, 0, 0);
        due("P12 not below 0", x.of(0, 8), 0);
        due("P12 not above 99", x.of(0, 9), 99);
        due("P12 cries not below 0", x.of(0, 7), 0);
        Checks.tell(x, 0, "nods 1001; wins 0 - 3; cries 1001;");
        due("P12 not above 1000", x.of(0, 8), 1000);
        due("P12 not below 0", x.of(0, 9), 0);
        due("P12 cries not above 1000", x.of(0, 7), 1000);
    }

    private static void ofPowers() {
        BasketEnvoys x = new BasketEnvoys();
        x.power(5);
        x.power(6);
        Checks.tell(x, 3, "power 1 wants 1 2 3 4 5 15;");
        due("P13 no power", x.powerOf(2, 0), -2);
        due("P13 no power", x.powerOf(-1, 0), -2);
        due("P13 wants", x.powerOf(1, 4), 6);
        int[] wants = {1, 2, 3, 4, 5, 15};
        for (int i = 0; i < 6; i++) {
            due("P13 wants " + i, x.powerOf(1, 10 + i), wants[i]);
            due("P13 wants nothing " + i, x.powerOf(0, 10 + i), -1);
        }
        for (int what : new int[] {-1, 6, 9, 16, 99, 112}) {
            due("P13 other what " + what, x.powerOf(1, what), -2);
        }
        for (int t = 0; t < 12; t++) {
            due("P13 says its own", x.powerOf(0, 100 + t), t);
        }
    }
}
