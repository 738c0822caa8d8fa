/** Promises 44 and 45: what goes back, what forgets it, and the image. */
public final class UndoTest {
    private static final Checks CHECKS = new Checks();

    private static void due(String what, long got, long want) {
        CHECKS.due(what, got, want);
    }

    private static void due(String what, boolean got, boolean want) {
        CHECKS.due(what, got, want);
    }

    public static void main(String[] args) {
        oneByOne();
        sixAreKept();
        whatForgets();
        whatDoesNot();
        imageOfAll();
        imageAndBook();
        imageAndUndo();
        CHECKS.finish();
    }

    private static BasketEnvoys town() {
        BasketEnvoys x = new BasketEnvoys();
        x.power(40);
        x.power(50);
        x.mute(5, 5, true);
        x.mute(5, 5, false);
        Checks.tell(x, 3, "power 0 wants 3;");
        Checks.tell(x, 0, "nods 1000; cries 1000 when day > 1; cries 0; wins 7;");
        x.state(11);
        return x;
    }

    /** All that undo gives back, as a text. */
    private static String all(BasketEnvoys x) {
        StringBuilder told = new StringBuilder();
        for (int what = 0; what < 13; what++) {
            told.append(x.look(what)).append(' ');
        }
        for (int i = 0; i < x.look(0); i++) {
            for (int what = 0; what < 16; what++) {
                told.append(x.powerOf(i, what)).append(' ');
            }
        }
        for (int i = 0; i < x.look(1); i++) {
            for (int what = 0; what < 18; what++) {
                told.append(x.of(i, what)).append(' ');
            }
        }
        for (int i = 0; i < x.look(7); i++) {
            for (int what = 0; what < 4; what++) {
                told.append(x.book(i, what)).append(' ');
            }
        }
        return told.toString();
    }

    private static void oneByOne() {
        BasketEnvoys x = town();
        due("P44 nothing yet", x.undo(), false);
        String[] before = new String[9];
        int[][] acts = {{2, 0, 3}, {4, 0, 0}, {3, 0, 0}, {2, 0, 3}, {0, 0, 0}, {-1, 0, 0}, {1, 0, 0}};
        for (int i = 0; i < acts.length; i++) {
            before[i] = all(x);
            due("P44 done " + i, acts[i][0] < 0 ? x.days(1) == 1 : x.act(acts[i][0], acts[i][1], acts[i][2]), true);
            due("P46 kept " + i, x.look(13), Math.min(6, i + 1));
            due("P44 changed " + i, all(x).equals(before[i]), false);
        }
        for (int i = acts.length - 1; i >= 1; i--) {
            due("P44 undo " + i, x.undo(), true);
            due("P44 as before " + i, all(x).equals(before[i]), true);
            due("P46 left " + i, x.look(13), i - 1);
        }
        due("P44 no seventh", x.undo(), false);
        due("P44 stays", all(x).equals(before[1]), true);
        // a cry goes back with its port, its trust, and what is known
        x = town();
        x.act(0, 0, 1);
        x.days(1);
        x.act(0, 0, 1);
        x.days(1);
        x.act(0, 0, 1);
        String atTwo = all(x);
        x.days(1);
        due("P44 cried", x.look(3), 1);
        due("P44 undo", x.undo(), true);
        due("P44 nobody cried", all(x).equals(atTwo), true);
    }

    private static void sixAreKept() {
        BasketEnvoys x = town();
        x.act(2, 0, 3);
        due("P44 each day by itself", x.days(4), 0);
        due("P46 five", x.look(13), 5);
        x.undo();
        due("P44 one day less", x.look(4), 3);
        x.days(60);
        due("P46 six", x.look(13), 6);
        for (int i = 1; i <= 6; i++) {
            due("P44 undo " + i, x.undo(), true);
            due("P44 day " + i, x.look(4), 63 - i);
        }
        due("P44 no seventh", x.undo(), false);
        due("P44 day", x.look(4), 57);
        // what fails is not kept
        x.act(9, 0, 0);
        x.act(1, 0, 0);
        x.days(0);
        due("P46 none", x.look(13), 0);
        x.act(4, 1, 0);
        due("P46 a prick", x.look(13), 1);
    }

    private static BasketEnvoys withOne() {
        BasketEnvoys x = town();
        x.act(2, 0, 3);
        return x;
    }

    private static void whatForgets() {
        for (int i = 0; i < 10; i++) {
            BasketEnvoys x = withOne();
            switch (i) {
                case 0: x.state(11); break;
                case 1: x.power(1); break;
                case 2: x.mute(1, 1, true); break;
                case 3: x.set(0, 0, 40); break;
                case 4: x.set(4, 0, 10); break;
                case 5: x.text(1); break;
                case 6: x.text(2); break;
                case 7: x.text(3); break;
                case 8: x.set(3, 1, 0); break;
                default:
                    x.image(true);
                    due("P45 taking does not forget", x.look(13), 1);
                    x.image(false);
                    break;
            }
            due("P44 forgets " + i, x.look(13), 0);
            due("P44 forgets " + i, x.undo(), false);
            due("P44 basket " + i, x.of(0, 5), 1);
        }
    }

    private static void whatDoesNot() {
        BasketEnvoys x = withOne();
        x.power(100);
        x.mute(0, 10, true);
        x.set(0, 0, 100);
        x.set(5, 0, 0);
        x.image(false);
        x.text(0);
        due("P44 the law does not", x.look(13), 1);
        for (int k = 1; k <= 4; k++) {
            Checks.feed(x, "?");
            x.text(k);
        }
        due("P44 faults do not", x.look(13), 1);
        x.shows(1);
        x.weighs(1, 1);
        x.hears(1);
        x.count(1);
        x.table(0, 0, 1);
        x.worth(0, 0, 1);
        x.load(1, 1);
        x.promise(0, 1, 3);
        x.hat(0, 1);
        x.border(0, 1);
        x.cloth(0, 1);
        x.interpreter(1243);
        x.goes(5, 0);
        x.peace(0);
        due("P44 what is told for thought does not", x.look(13), 1);
        Checks.tell(x, 0, "cries 5;");
        due("P44 undo", x.undo(), true);
        due("P44 basket", x.of(0, 5), 0);
        due("P44 the law stays", x.look(9), 1);
        due("P44 the law stays", x.of(1, 7), 5);
        due("P44 what is told for thought stays", x.kept(0), 192);
        due("P44 what is told for thought stays", x.word(3), 4);
    }

    private static void imageOfAll() {
        BasketEnvoys x = new BasketEnvoys();
        due("P45 none", x.image(false), false);
        x = town();
        Checks.tell(x, 1, "power 1 thing 3 says 4;");
        Checks.tell(x, 2, "on 0 gift 1 3;");
        x.shows(1);
        x.hears(1);
        x.weighs(3, 9);
        x.count(3);
        x.count(4);
        x.table(0, 4, 5);
        x.table(1, 4, 5);
        x.worth(0, 1, 7);
        x.load(3, 8);
        x.promise(0, 1, 3);
        x.hat(0, 1);
        x.border(0, 1);
        x.cloth(0, 1);
        x.cloth(1, 1);
        x.interpreter(1243);
        Checks.feed(x, "cries 5;");
        due("P45 taken", x.image(true), true);
        String before = all(x) + thoughts(x);
        for (int round = 0; round < 2; round++) {
            due("P45 the tape is not in it", x.end(8), round == 0);
            if (round == 0) {
                x.text(0);
            }
            Checks.tell(x, 0, "nods 1;");
            x.power(1);
            x.mute(1, 1, true);
            Checks.tell(x, 1, "power 0 thing 3 says 5; power 2 thing 1 says 0;");
            Checks.tell(x, 2, "on 0 send 0 1; on 0 mourn 1 1; on 0 gift 2 1;");
            Checks.tell(x, 3, "power 1 wants 3 4; power 0 wants 4;");
            x.days(3);
            x.state(5);
            x.set(4, 0, 55);
            x.set(1, 0, 1);
            x.set(3, 1, 1);
            x.act(2, 1, 5);
            x.shows(-1);
            x.hears(-1);
            x.weighs(3, 1);
            x.count(-1);
            x.table(0, 4, -5);
            x.table(1, 3, 9);
            x.worth(0, 1, 0);
            x.load(-1, 0);
            x.promise(-1, 0, 0);
            x.hat(0, 0);
            x.border(-1, 0);
            x.cloth(0, -1);
            x.cloth(1, -1);
            x.interpreter(-1);
            due("P45 other", (all(x) + thoughts(x)).equals(before), false);
            Checks.tell(x, 3, "?");
            Checks.feed(x, "wins 7;");
            due("P45 back", x.image(false), true);
            due("P45 all as it was", all(x) + thoughts(x), before);
            due("P45 fault() is not in it", x.fault(0), 1);
            due("P45 nothing can be undone", x.look(13), 0);
            due("P45 the tape stays", x.end(7), true);
            x.end(0);
        }
        x.days(1);
        due("P45 the court came along", x.powerOf(1, 0), 53);
        x.image(true);
        x.days(1);
        x.image(false);
        due("P45 the later image", x.look(4), 1);
    }

    private static void due(String what, String got, String want) {
        due(what, got.equals(want), true);
        if (!got.equals(want)) {
            System.out.println(got + "\n" + want);
        }
    }

    private static String thoughts(BasketEnvoys x) {
        int[] all = {
            x.alike(0), x.lightest(0, 0), x.lightest(0, 1), x.heard(0, 0), x.heard(0, 1), x.heard(1, 1), x.signs(),
            x.tables(0), x.tables(1), x.tables(2), x.sent(2, 0), x.carried(9, 0), x.kept(0), x.hats(1), x.map(2),
            x.cloths(0), x.cloths(1), x.word(3), x.powerOf(1, 103), x.powerOf(0, 103), x.goes(1, 3), x.peace(0),
        };
        StringBuilder told = new StringBuilder();
        for (int v : all) {
            told.append(v).append(' ');
        }
        return told.toString();
    }

    private static void imageAndBook() {
        // undone behind the image and written anew: the image's own lines come back
        BasketEnvoys x = town();
        x.act(4, 1, 0);
        x.act(0, 0, 1);
        x.image(true);
        x.undo();
        x.undo();
        x.act(0, 1, 0);
        x.act(4, 0, 0);
        due("P45 other lines", x.book(0, 1), 0);
        x.image(false);
        due("P45 lines", x.look(7), 2);
        due("P45 line 0", x.book(0, 1), 6);
        due("P45 line 0", x.book(0, 2), 1);
        due("P45 line 1", x.book(1, 1), 0);
        due("P45 line 1", x.book(1, 3), 1);
    }

    private static void imageAndUndo() {
        BasketEnvoys x = town();
        x.act(2, 0, 3);
        x.image(true);
        x.undo();
        due("P45 undone behind the image", x.of(0, 5), 0);
        due("P45 back", x.image(false), true);
        due("P45 the basket", x.of(0, 5), 1);
        due("P45 not undone twice", x.undo(), false);
        // powers that come anew behind the image begin anew
        x.power(77);
        Checks.tell(x, 3, "power 2 wants 1 2;");
        x.image(false);
        due("P45 no third power", x.powerOf(2, 0), -2);
        due("P45 comes again", x.power(5), 2);
        due("P45 wants nothing", x.powerOf(2, 4), 0);
        due("P45 trust", x.powerOf(2, 0), 5);
        x.mute(9, 9, true);
        x.act(2, 2, 1);
        x.act(0, 2, 0);
        x.image(false);
        x.mute(1, 1, false);
        due("P45 a new mute", x.of(2, 3), -1);
        due("P45 an empty basket", x.of(2, 5), 0);
        due("P45 skill", x.of(2, 0), 1);
    }
}
