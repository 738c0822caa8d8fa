/** Promises 7 and 14 to 16: how a day goes, THE BOOK, and days in thought. */
public final class DaysTest {
    private static final Checks CHECKS = new Checks();

    private static void due(String what, long got, long want) {
        CHECKS.due(what, got, want);
    }

    public static void main(String[] args) {
        bounds();
        nods();
        steps();
        cries();
        drawsInOrder();
        goingHome();
        court();
        book();
        thought();
        peace();
        CHECKS.finish();
    }

    private static void law(BasketEnvoys x, String law) {
        Checks.tell(x, 0, law);
    }

    private static void book(BasketEnvoys x, int i, int day, int what, int who, int howMuch) {
        int[] line = {day, what, who, howMuch};
        for (int j = 0; j < 4; j++) {
            due("P14 book " + i + " " + j, x.book(i, j), line[j]);
        }
    }

    /** One mute (skill 5) at one power (trust 40) with these things in his basket. */
    private static BasketEnvoys sent(int... things) {
        BasketEnvoys x = new BasketEnvoys();
        x.power(40);
        x.mute(5, 4, true);
        for (int thing : things) {
            x.act(2, 0, thing);
        }
        x.act(0, 0, 0);
        return x;
    }

    private static void bounds() {
        BasketEnvoys x = new BasketEnvoys();
        for (int n : new int[] {0, -1, 61, Integer.MIN_VALUE, Integer.MAX_VALUE}) {
            due("P7 days " + n, x.days(n), -1);
            due("P15 goes " + n, x.goes(n, 2), -1);
        }
        due("P7 nothing done", x.look(4), 0);
        due("P7 nothing to undo", x.look(13), 0);
        for (int i = 0; i < 166; i++) {
            due("P7 sixty", x.days(60), 0);
        }
        due("P7 day", x.look(4), 9960);
        due("P7 above 9999", x.days(40), -1);
        due("P7 nothing done", x.look(4), 9960);
        due("P15 thought goes on", x.goes(60, 2), 10);
        due("P7 up to 9999", x.days(39), 0);
        due("P7 the last", x.look(4), 9999);
        due("P7 none more", x.days(1), -1);
        due("P46 six can be undone", x.look(13), 6);
    }

    private static void nods() {
        BasketEnvoys x = sent(3, 4, 5);
        law(x, "nods 1000; cries 0; wins 30;");
        int state = x.look(8);
        due("P7 a nod", x.days(1), 1);
        due("P7 one draw", x.look(8), 1664525 * state + 1013904223);
        due("P7 trust", x.powerOf(0, 0), 70);
        due("P7 nods", x.powerOf(0, 2), 1);
        due("P7 shown", x.of(0, 6), 1);
        due("P7 two nods", x.days(2), 2);
        due("P7 trust at most", x.powerOf(0, 0), 99);
        due("P7 lines", x.look(7), 4);
        book(x, 1, 0, 1, 0, 3);
        book(x, 3, 2, 1, 0, 5);

        BasketEnvoys y = sent(3, 4, 5);
        law(y, "nods 0; cries 0;");
        y.set(0, 0, 2);
        state = y.look(8);
        due("P7 no nod", y.days(1), 0);
        due("P7 no draw at 0", y.look(8), state);
        due("P7 trust less", y.powerOf(0, 0), 1);
        due("P7 no nod", y.days(2), 0);
        due("P7 trust at least", y.powerOf(0, 0), 0);
        due("P7 shown without a nod", y.of(0, 6), 3);
        book(y, 3, 2, 2, 0, 5);

        // wins is asked behind the nod, with the trust before it and the things shown before
        BasketEnvoys z = sent(3, 4);
        law(z, "nods 1000; wins trust / 10 + shown * 5; cries 0;");
        z.days(1);
        due("P7 wins", z.powerOf(0, 0), 44);
        z.days(1);
        due("P7 wins with shown", z.powerOf(0, 0), 53);
        // the default law: 60 times skill and 5 times trust, each below a draw
        BasketEnvoys w = sent(1, 1, 1, 1, 1, 1, 1, 1);
        w.set(3, 0, 0);
        w.state(99);
        int draws = 99;
        int trust = 40;
        for (int i = 0; i < 8; i++) {
            draws = 1664525 * draws + 1013904223;
            boolean nod = (draws >>> 8) % 1000 < 300 + 5 * trust;
            trust += nod ? 1 : -1;
            due("P7 nod " + i, w.days(1), nod ? 1 : 0);
            due("P7 trust " + i, w.powerOf(0, 0), trust);
        }
    }

    private static void steps() {
        BasketEnvoys x = sent(3, 4, 3, 3, 4, 5, 3, 4);
        Checks.tell(x, 3, "power 0 wants 3 4 5;");
        law(x, "nods 1000; cries 0;");
        int[] steps = {1, 2, 0, 1, 2, 0, 1, 2};
        for (int i = 0; i < 8; i++) {
            x.days(1);
            due("P7 step " + i, x.powerOf(0, 1), steps[i]);
            due("P7 treaties " + i, x.powerOf(0, 3), i < 5 ? 0 : 1);
        }
        book(x, 6, 5, 1, 0, 5);
        book(x, 7, 5, 3, 0, 0);
        book(x, 8, 6, 1, 0, 3);
        // no nod leaves the step; a power that wants nothing has none
        BasketEnvoys y = sent(3, 9, 4);
        Checks.tell(y, 3, "power 0 wants 3 4;");
        law(y, "nods 1000 when not says = 9; nods 0; cries 0;");
        y.days(2);
        due("P7 step stays", y.powerOf(0, 1), 1);
        y.days(1);
        due("P7 treaty", y.powerOf(0, 3), 1);
        BasketEnvoys z = sent(3, 3);
        law(z, "nods 1000; cries 0;");
        z.days(2);
        due("P7 wants nothing", z.powerOf(0, 1), 0);
        due("P7 no treaty", z.powerOf(0, 3), 0);
        // one meaning wanted: each is a treaty; and two mutes read on together
        BasketEnvoys w = new BasketEnvoys();
        w.power(1);
        w.power(1);
        w.mute(0, 0, false);
        w.mute(0, 0, false);
        w.act(2, 0, 7);
        w.act(2, 1, 8);
        w.act(0, 0, 1);
        w.act(0, 1, 1);
        Checks.tell(w, 1, "power 1 thing 7 says 2; power 1 thing 8 says 2;");
        Checks.tell(w, 3, "power 1 wants 2 2;");
        law(w, "nods 1000;");
        due("P7 two nods in a day", w.days(1), 2);
        due("P7 a treaty by two", w.powerOf(1, 3), 1);
        book(w, 4, 0, 3, 1, 1);
        Checks.tell(w, 3, "power 1 wants 2;");
        w.act(1, 0, 0);
        w.act(0, 0, 1);
        w.days(1);
        due("P7 each one a treaty", w.powerOf(1, 3), 2);
        due("P7 at the second power", w.powerOf(0, 2), 0);
    }

    private static void cries() {
        BasketEnvoys x = sent(3);
        x.set(4, 0, 2);
        Checks.tell(x, 3, "power 0 wants 3 4;");
        law(x, "nods 1000; cries 1000 when day = 1;");
        x.days(1);
        due("P7 step", x.powerOf(0, 1), 1);
        due("P7 none left to show, and he cries", x.days(1), 0);
        due("P7 known", x.of(0, 4), 1);
        due("P7 ports", x.look(2), 1);
        due("P7 lost", x.look(3), 1);
        due("P7 trust", x.powerOf(0, 0), 0);
        due("P7 step", x.powerOf(0, 1), 0);
        due("P7 at home", x.of(0, 3), -1);
        due("P7 shown as it was", x.of(0, 6), 1);
        due("P7 one line alone", x.look(7), 3);
        book(x, 2, 1, 4, 0, 1);
        // no port to lose; treaties and nods stay
        BasketEnvoys y = sent(3);
        y.set(4, 0, 0);
        law(y, "cries 1000;");
        y.days(1);
        due("P7 no port", y.look(2), 0);
        due("P7 none lost", y.look(3), 0);
        due("P7 shown nothing", y.of(0, 6), 0);
        book(y, 1, 0, 4, 0, 0);
        // cries by default: 50 times grief of who is false
        BasketEnvoys z = sent(3, 3, 3, 3);
        law(z, "nods 0;");
        int draws = 5;
        z.state(5);
        for (int i = 0; i < 4; i++) {
            draws = 1664525 * draws + 1013904223;
            boolean cries = (draws >>> 8) % 1000 < 200;
            z.days(1);
            due("P7 cries " + i, z.of(0, 4), cries ? 1 : 0);
            due("P7 drawn " + i, z.look(8), draws);
            if (cries) {
                break;
            }
        }
        // a cry on a day takes the trust that a later mute needs
        BasketEnvoys w = new BasketEnvoys();
        w.power(99);
        w.mute(0, 0, true);
        w.mute(0, 0, false);
        w.act(2, 1, 1);
        w.act(0, 0, 0);
        w.act(0, 1, 0);
        law(w, "cries 1000 when false = 1; cries 0; nods 1000 when trust > 0; nods 0;");
        due("P7 no nod behind a cry", w.days(1), 0);
    }

    private static void drawsInOrder() {
        BasketEnvoys x = new BasketEnvoys();
        x.power(50);
        x.power(50);
        for (int i = 0; i < 3; i++) {
            x.mute(i, 0, false);
            x.act(2, i, i);
            x.act(0, i, i % 2);
        }
        law(x, "nods 500; cries 100;");
        x.state(4242);
        int draws = 4242;
        boolean[] cried = new boolean[3];
        boolean[] nodded = new boolean[3];
        for (int i = 0; i < 3; i++) {
            draws = 1664525 * draws + 1013904223;
            cried[i] = (draws >>> 8) % 1000 < 100;
            if (!cried[i]) {
                draws = 1664525 * draws + 1013904223;
                nodded[i] = (draws >>> 8) % 1000 < 500;
            }
        }
        x.days(1);
        due("P7 draws", x.look(8), draws);
        for (int i = 0; i < 3; i++) {
            due("P7 mute by mute " + i, x.book(3 + i, 1), cried[i] ? 4 : nodded[i] ? 1 : 2);
            due("P7 who " + i, x.book(3 + i, 2), i);
        }
    }

    private static void goingHome() {
        BasketEnvoys x = sent(3);
        law(x, "nods 0; cries 0;");
        x.days(1);
        due("P7 still away", x.of(0, 3), 0);
        x.days(1);
        due("P7 home", x.of(0, 3), -1);
        due("P7 shown", x.of(0, 6), 1);
        book(x, 2, 1, 5, 0, 1);
        due("P7 trust stays", x.powerOf(0, 0), 39);
        BasketEnvoys y = sent();
        law(y, "cries 0;");
        y.days(1);
        due("P7 an empty basket", y.of(0, 3), -1);
        book(y, 1, 0, 5, 0, 0);
        due("P7 lines", y.look(7), 2);
    }

    private static void court() {
        BasketEnvoys x = new BasketEnvoys();
        x.power(40);
        x.power(95);
        x.mute(5, 4, false);
        x.mute(5, 4, false);
        x.act(2, 0, 2);
        law(x, "nods 0; cries 0;");
        Checks.tell(x, 2, "on 1 send 0 1; on 1 send 0 0; on 2 gift 1 5; on 2 gift 1 99; on 2 gift 0 7; on 1 home 1;"
            + "on 3 mourn 1 9; on 3 send 1 0; on 3 home 1; on 3 mourn 0 0; on 4 send 1 1; on 999 gift 0 1;");
        x.days(1);
        due("P7 not yet", x.look(7), 0);
        x.days(1);
        due("P7 sent", x.of(0, 3), 1);
        due("P7 shown on that day", x.of(0, 6), 1);
        book(x, 0, 1, 0, 0, 1);
        book(x, 1, 1, 2, 0, 2);
        due("P7 who is home stays, none else", x.look(7), 2);
        due("P7 trust", x.powerOf(1, 0), 94);
        x.days(1);
        due("P7 gift at most", x.powerOf(1, 0), 99);
        due("P7 gift", x.powerOf(0, 0), 47);
        book(x, 2, 2, 5, 0, 1);
        due("P7 no line for gifts", x.look(7), 3);
        x.days(1);
        due("P7 mourns", x.of(1, 1), 9);
        due("P7 mourns no more", x.of(0, 1), 0);
        book(x, 3, 3, 0, 1, 0);
        book(x, 4, 3, 5, 1, 0);
        due("P7 sent and home", x.of(1, 3), -1);
        x.days(1);
        due("P7 nothing to show", x.of(1, 3), -1);
        due("P7 sent, home again", x.look(7), 7);
        x.act(0, 0, 0);
        due("P7 shown anew", x.of(0, 6), 0);
    }

    private static void book() {
        BasketEnvoys x = new BasketEnvoys();
        due("P14 none", x.book(0, 0), -1);
        x.power(1);
        x.mute(1, 1, false);
        for (int i = 0; i < 149; i++) {
            x.act(4, 0, 0);
        }
        due("P14 lines", x.look(7), 149);
        x.act(2, 0, 3);
        Checks.tell(x, 3, "power 0 wants 3;");
        law(x, "nods 1000;");
        x.act(0, 0, 0);
        book(x, 149, 0, 0, 0, 0);
        due("P14 the last", x.look(7), 150);
        x.days(1);
        due("P14 no more", x.look(7), 150);
        due("P14 none behind", x.book(150, 0), -1);
        due("P14 a treaty all the same", x.powerOf(0, 3), 1);
        due("P14 below", x.book(-1, 0), -1);
        due("P14 what", x.book(0, 4), -1);
        due("P14 what", x.book(0, -1), -1);
        book(x, 149, 0, 0, 0, 0);
    }

    private static void thought() {
        BasketEnvoys x = sent(3, 4, 3, 4);
        x.power(7);
        Checks.tell(x, 3, "power 0 wants 3 4;");
        law(x, "nods 500; cries 499; wins 2;");
        x.days(1);
        due("P15 drawn", x.look(7), 2);
        x.undo();
        int state = x.look(8);
        due("P15 nods", x.goes(1, 0), 1);
        due("P15 nods", x.goes(60, 0), 4);
        due("P15 treaties", x.goes(2, 1), 1);
        due("P15 treaties", x.goes(60, 1), 2);
        due("P15 ports", x.goes(60, 2), 10);
        due("P15 trust of all", x.goes(3, 3), 53);
        due("P15 other what", x.goes(3, 4), -1);
        due("P15 other what", x.goes(3, -1), -1);
        due("P15 nothing drawn", x.look(8), state);
        due("P15 nothing written", x.look(7), 1);
        due("P15 no day", x.look(4), 0);
        due("P15 nobody shown", x.of(0, 6), 0);
        due("P15 nothing known", x.look(6), 0);
        law(x, "nods 499; cries 499;");
        due("P15 no nods", x.goes(60, 0), 0);
        due("P15 trust", x.goes(60, 3), 43);
        law(x, "cries 500; nods 500;");
        due("P15 cries", x.goes(1, 2), 9);
        due("P15 cries", x.goes(1, 0), 0);
        due("P15 trust lost", x.goes(1, 3), 7);
        // what has been counts, too, and the court goes on in thought
        law(x, "nods 1000; cries 0;");
        x.days(2);
        Checks.tell(x, 2, "on 3 gift 1 20; on 3 home 0;");
        due("P15 nods until then", x.goes(1, 0), 3);
        due("P15 home by the court", x.goes(60, 0), 3);
        due("P15 gifts", x.goes(2, 3), 43 + 27);
        due("P15 treaties until then", x.goes(1, 1), 1);
        due("P15 stays", x.of(0, 3), 0);
        x.act(1, 0, 0);
        x.set(1, 0, 9);
        x.set(0, 0, 1);
        law(x, "");
        x.act(0, 0, 0);
        due("P15 default", x.goes(1, 0), 3);
    }

    private static void peace() {
        BasketEnvoys x = sent(3, 4, 3, 4);
        x.power(7);
        Checks.tell(x, 3, "power 0 wants 3 4;");
        law(x, "nods 500; cries 0;");
        due("P16 peace", x.peace(0), 2);
        due("P16 wants nothing", x.peace(1), -1);
        due("P16 none such", x.peace(2), -1);
        due("P16 none such", x.peace(-1), -1);
        due("P16 nothing stays", x.look(4), 0);
        law(x, "nods 1000; cries 0;");
        x.days(1);
        due("P16 one day less", x.peace(0), 1);
        x.days(1);
        due("P16 more than now", x.peace(0), 2);
        x.days(1);
        due("P16 more than now", x.peace(0), 1);
        x.days(1);
        due("P16 none left", x.peace(0), -1);
        // the sixtieth day counts, the one behind it does not
        for (int day = 59; day <= 60; day++) {
            BasketEnvoys y = new BasketEnvoys();
            y.power(1);
            y.mute(1, 1, false);
            y.act(2, 0, 3);
            Checks.tell(y, 3, "power 0 wants 3;");
            Checks.tell(y, 2, "on " + day + " send 0 0;");
            law(y, "nods 1000;");
            due("P16 on day " + day, y.peace(0), day == 59 ? 60 : -1);
        }
    }
}
