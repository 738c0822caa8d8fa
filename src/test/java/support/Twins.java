import java.util.ArrayList;
import java.util.List;

/**
 * Two towns that were made alike, one of which got a call more. If the call changed nothing, both answer alike for ever:
 * what they are, what is thought of them, the tape and the fault, days to come, what is undone, the image, what is told.
 */
final class Twins {
    interface Maker {
        BasketEnvoys make();
    }

    interface Call {
        long on(BasketEnvoys x);
    }

    interface Part {
        void tell(BasketEnvoys x, List<Long> told);
    }

    private static final String[] NAMES = {
        "what it is", "what is thought", "the fault", "the tape", "days to come", "what is undone", "the image", "what is told",
    };
    private static final Part[] PARTS = {
        Twins::being, Twins::thought, Twins::fault, Twins::tape, Twins::later, Twins::undone, Twins::imaged, Twins::telling,
    };

    private Twins() {
    }

    static long yes(boolean answer) {
        return answer ? 1 : 0;
    }

    /** The call answers so, and changes nothing of this town. */
    static void changesNothing(String what, Maker maker, long want, Call call) {
        for (int part = 0; part < PARTS.length; part++) {
            BasketEnvoys x = maker.make();
            Sentences.due(what, call.on(x), want);
            Sentences.due(what + " changes nothing of " + NAMES[part], told(part, x), told(part, maker.make()));
        }
    }

    /** The call answers so, and changes nothing of a town where everything is told. */
    static void changesNothing(String what, long want, Call call) {
        changesNothing(what, Twins::full, want, call);
    }

    /** Both answer alike, whatever is asked of them. */
    static void alike(String what, Maker first, Maker second) {
        alikeBut(what, first, second, "");
    }

    /** Both answer alike, but for the parts that are named. */
    static void alikeBut(String what, Maker first, Maker second, String but) {
        for (int part = 0; part < PARTS.length; part++) {
            if (!but.contains(NAMES[part])) {
                Sentences.due(what + ", " + NAMES[part], told(part, first.make()), told(part, second.make()));
            }
        }
    }

    /** A text with a fault: it tells nothing, whatever the town, but its fault and an empty tape. */
    static void faulty(Maker maker, int k, String text, int fault, int place) {
        String what = "text " + k + " \"" + text + "\"";
        Maker told = () -> {
            BasketEnvoys x = maker.make();
            x.end(0);
            Sentences.due(what, Checks.tell(x, k, text), -1);
            return x;
        };
        Sentences.due(what + " fault", told.make().fault(0), fault);
        Sentences.due(what + " place", told.make().fault(1), place);
        Maker untold = () -> {
            BasketEnvoys x = maker.make();
            x.end(0);
            return x;
        };
        alikeBut(what, told, untold, "the fault");
    }

    /** Two powers and two mutes beside others, everything told, six things to undo, a tape, a fault, an image. */
    static BasketEnvoys full() {
        BasketEnvoys x = prepared();
        x.act(2, 0, 3);
        x.act(2, 0, 4);
        x.act(2, 0, 3);
        x.act(2, 1, 11);
        x.image(true);
        x.act(0, 0, 0);
        x.days(1);
        x.act(4, 1, 0);
        x.act(3, 1, 0);
        x.act(2, 1, 1);
        x.act(0, 1, 2);
        x.act(1, 1, 0);
        return x;
    }

    /** The same with two things to undo. */
    static BasketEnvoys few() {
        BasketEnvoys x = prepared();
        x.act(2, 0, 3);
        x.act(2, 0, 4);
        x.act(0, 0, 0);
        x.act(2, 1, 11);
        x.days(1);
        x.image(true);
        x.state(777);
        x.act(4, 1, 0);
        x.act(2, 1, 5);
        return x;
    }

    private static BasketEnvoys prepared() {
        BasketEnvoys x = new BasketEnvoys();
        x.power(40);
        x.power(0);
        x.power(99);
        x.mute(5, 4, true);
        x.mute(9, 9, false);
        x.mute(0, 0, true);
        Checks.tell(x, 1, "power 0 thing 3 says 5;power 1 thing 3 says 5;");
        Checks.tell(x, 2, "on 2 send 2 0;on 3 gift 1 7;");
        Checks.tell(x, 3, "power 0 wants 5 4;power 2 wants 1;");
        Checks.tell(x, 0, "nods 500+shown;cries grief*20;wins 3;");
        x.shows(3);
        x.shows(4);
        x.hears(5);
        x.hears(-2);
        x.weighs(3, 7);
        x.weighs(4, 2);
        x.weighs(1, 6);
        x.count(3);
        x.count(5);
        x.table(0, 4, 5);
        x.table(1, 4, -5);
        x.worth(0, 1, 9);
        x.load(3, 8);
        x.load(5, 9);
        x.promise(0, 1, 3);
        x.hat(0, 3);
        x.hat(1, 1);
        x.border(0, 1);
        x.cloth(0, 1);
        x.cloth(1, 1);
        x.cloth(1, 2);
        x.interpreter(1243);
        x.state(12345);
        Checks.tell(x, 3, "power 9");
        Checks.feed(x, "cries 7;");
        return x;
    }

    static String told(int part, BasketEnvoys x) {
        List<Long> told = new ArrayList<>();
        PARTS[part].tell(x, told);
        return told.toString();
    }

    static String being(BasketEnvoys x) {
        return told(0, x);
    }

    private static void being(BasketEnvoys x, List<Long> told) {
        for (int what = -1; what <= 14; what++) {
            told.add((long) x.look(what));
        }
        for (int mute = 0; mute < x.look(1); mute = next(mute, x.look(1))) {
            for (int what = 0; what <= 17; what++) {
                told.add((long) x.of(mute, what));
            }
        }
        for (int power = 0; power < x.look(0); power = next(power, x.look(0))) {
            for (int what = 0; what <= 15; what = what == 5 ? 10 : what + 1) {
                told.add((long) x.powerOf(power, what));
            }
            for (int thing = 0; thing < 12; thing++) {
                told.add((long) x.powerOf(power, 100 + thing));
            }
        }
        for (int i = Math.max(0, x.look(7) - 8); i < x.look(7); i++) {
            for (int what = 0; what < 4; what++) {
                told.add((long) x.book(i, what));
            }
        }
    }

    /** The first three of a row and its last: an object answers 512 calls alone. */
    private static int next(int i, int size) {
        return i == 2 && size > 3 ? size - 1 : i + 1;
    }

    private static void thought(BasketEnvoys x, List<Long> told) {
        for (int what = 0; what < 4; what++) {
            told.add((long) x.goes(1, what));
            told.add((long) x.goes(4, what));
            told.add((long) x.tables(what));
            told.add((long) x.kept(what));
            told.add((long) x.cloths(what));
        }
        for (int power = 0; power < 3; power++) {
            told.add((long) x.peace(power));
            told.add((long) x.alike(power));
            told.add((long) x.lightest(power, 0));
            told.add((long) x.lightest(power, 1));
            told.add((long) x.heard(power, 0));
            told.add((long) x.heard(power, 1));
        }
        told.add((long) x.signs());
        for (int n = 1; n <= 6; n++) {
            told.add((long) x.sent(n, 0));
            told.add((long) x.sent(n, 1));
            told.add((long) x.hats(n));
            told.add((long) x.map(n - 2));
            told.add((long) x.word(n - 2));
        }
        for (int w = 0; w <= 200; w += 5) {
            told.add((long) x.carried(w, 0));
            told.add((long) x.carried(w, 1));
        }
    }

    private static void fault(BasketEnvoys x, List<Long> told) {
        told.add((long) x.fault(0));
        told.add((long) x.fault(1));
    }

    private static void tape(BasketEnvoys x, List<Long> told) {
        told.add((long) x.feed(0x20202020, 0x20202020, 0x20202020, 0x20202020, 0x20202020));
        told.add((long) x.text(0));
        told.add((long) x.fault(0));
        told.add((long) x.fault(1));
        told.add((long) x.look(9));
        told.add((long) x.of(0, 7));
        told.add(yes(x.end(1)));
    }

    private static void later(BasketEnvoys x, List<Long> told) {
        told.add((long) x.days(3));
        told.add((long) x.days(2));
        being(x, told);
    }

    private static void undone(BasketEnvoys x, List<Long> told) {
        for (int i = 0; i < 7; i++) {
            told.add(yes(x.undo()));
            for (int what : new int[] {2, 3, 4, 5, 6, 7, 8, 13}) {
                told.add((long) x.look(what));
            }
            for (int what : new int[] {3, 4, 5, 6, 10, 11}) {
                told.add((long) x.of(0, what));
                told.add((long) x.of(1, what));
            }
            for (int what = 0; what < 4; what++) {
                told.add((long) x.powerOf(0, what));
            }
            told.add((long) x.book(x.look(7) - 1, 1));
        }
    }

    private static void imaged(BasketEnvoys x, List<Long> told) {
        told.add(yes(x.image(false)));
        being(x, told);
        told.add((long) x.kept(0));
        told.add((long) x.signs());
        told.add((long) x.word(3));
    }

    private static void telling(BasketEnvoys x, List<Long> told) {
        told.add((long) x.shows(1));
        told.add((long) x.hears(1));
        told.add((long) x.count(1));
        told.add((long) x.load(1, 1));
        told.add((long) x.promise(0, 1, 0));
        told.add((long) x.border(0, 1));
        told.add((long) x.cloth(0, 1));
        told.add((long) x.cloth(1, 1));
        told.add((long) x.interpreter(1234));
        told.add((long) x.power(1));
        told.add((long) x.mute(1, 1, false));
    }
}
