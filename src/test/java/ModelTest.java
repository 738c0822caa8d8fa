import java.lang.reflect.InvocationTargetException;
import java.lang.reflect.Method;
import java.util.ArrayList;
import java.util.Arrays;
import java.util.HashMap;
import java.util.List;
import java.util.Map;

/** All promises: long runs of calls, the same ones on the class and on the slow model, each answer compared. */
public final class ModelTest {
    private static final Checks CHECKS = new Checks();
    private static final Map<String, Method> CLASS = new HashMap<>();
    private static final Map<String, Method> MODEL = new HashMap<>();
    private static long seed = 1;

    private BasketEnvoys x = new BasketEnvoys();
    private Model y = new Model();
    private final List<String> run = new ArrayList<>();
    private int calls = 0;
    private int things = 12;
    private boolean wrong = false;

    public static void main(String[] args) throws Exception {
        for (Method m : BasketEnvoys.class.getDeclaredMethods()) CLASS.put(m.getName(), m);
        for (Method m : Model.class.getDeclaredMethods()) {
            m.setAccessible(true);
            if (CLASS.containsKey(m.getName()) && m.getParameterCount() == CLASS.get(m.getName()).getParameterCount()) {
                MODEL.put(m.getName(), m);
            }
        }
        int runs = args.length > 0 ? Integer.parseInt(args[0]) : 400;
        int wrongRuns = 0;
        for (int i = 0; i < runs && wrongRuns < 5; i++) {
            seed = 1000003L * i + 17;
            ModelTest test = new ModelTest();
            test.play(i % 4);
            wrongRuns += test.wrong ? 1 : 0;
        }
        CHECKS.finish();
    }

    private static int any(int n) {
        seed = seed * 6364136223846793005L + 1442695040888963407L;
        return (int) ((seed >>> 33) % Math.max(1, n));
    }

    private static int from(int least, int most) {
        int odd = any(40);
        if (odd == 0) return least - 1 - any(3);
        if (odd == 1) return most + 1 + any(3);
        if (odd == 2) return most;
        if (odd == 3) return least;
        if (odd == 4 && any(10) == 0) return any(2) == 0 ? Integer.MIN_VALUE : Integer.MAX_VALUE;
        return least + any(most - least + 1);
    }

    private void call(String name, Object... args) {
        if (wrong || calls >= 512) return;
        calls++;
        String told = name + Arrays.toString(args);
        run.add(told);
        try {
            Object got = CLASS.get(name).invoke(x, args);
            Object want = MODEL.get(name).invoke(y, args);
            run.set(run.size() - 1, told + " " + want);
            CHECKS.due(told, got.equals(want), true);
            if (!got.equals(want)) {
                wrong = true;
                System.out.println("class " + got + ", model " + want + ", the run:");
                run.forEach(System.out::println);
            }
        } catch (InvocationTargetException e) {
            e.getCause().printStackTrace();
            CHECKS.due(told + " throws", true, false);
            wrong = true;
        } catch (IllegalAccessException e) {
            throw new IllegalStateException(e);
        }
    }

    private void play(int kind) {
        int powers = 1 + any(4);
        int mutes = 1 + any(6);
        things = kind == 1 ? 1 + any(3) : 12;
        if (kind == 3) {
            powers = any(12);
            mutes = any(16);
        }
        for (int i = 0; i < powers; i++) call("power", from(0, 99));
        for (int i = 0; i < mutes; i++) call("mute", from(0, 9), from(0, 9), any(3) == 0);
        call("state", any(1 << 30) * 4 + any(4));
        if (kind == 1) tell(0, "nods " + (500 + any(600)) + "; cries " + any(60) + " * false; wins thing + 3;");
        if (kind == 1) tell(3, wants());
        while (calls < 512 && !wrong) {
            int what = any(100);
            if (kind == 0) riddle();
            else if (what < 35) hand();
            else if (what < (kind == 1 ? 37 : 40)) text();
            else if (what < 43) undoOrImage();
            else if (what < 46) town();
            else if (what < 60 && kind == 2) call("days", from(1, 60));
            else if (what < 50 && kind == 3) riddle();
            else look();
        }
    }

    private void hand() {
        int what = any(12);
        if (what < 3) call("act", 0, from(0, y.look(1) - 1), from(0, y.look(0) - 1));
        else if (what < 7) call("act", 2, from(0, y.look(1) - 1), from(0, things - 1));
        else if (what == 7) call("act", from(0, 4), from(0, y.look(1) - 1), from(0, 11));
        else if (what == 8 && any(3) == 0) call("days", from(1, 60));
        else call("days", from(1, 2));
    }

    private void town() {
        int what = any(6);
        if (what == 0) call("power", from(0, 99));
        else if (what == 1) call("mute", from(0, 9), from(0, 9), any(2) == 0);
        else if (what == 2) call("state", any(1 << 30));
        else call("set", from(0, 4), any(14), any(2) == 0 ? from(0, 9) : from(0, 99));
    }

    private void undoOrImage() {
        int what = any(12);
        if (what < 8) call("undo");
        else if (what < 10) call("image", true);
        else if (any(3) == 0) call("image", false);
    }

    private void look() {
        int what = any(12);
        if (what == 0) call("look", from(0, 13));
        else if (what < 4) call("of", from(0, y.look(1) - 1), from(0, 17));
        else if (what < 6) call("powerOf", from(0, y.look(0) - 1), any(2) == 0 ? from(0, 5) : any(2) == 0 ? from(10, 15) : from(100, 111));
        else if (what < 8) call("book", any(2) == 0 ? y.look(7) - 1 : from(0, y.look(7) - 1), from(0, 3));
        else if (what == 8) call("goes", from(1, 60), from(0, 3));
        else if (what == 9) call("peace", from(0, y.look(0) - 1));
        else if (what == 10) call("look", any(2) == 0 ? 13 : 8);
        else call("fault", from(0, 1));
    }

    // ---- texts

    private void tell(int k, String text) {
        feed(text);
        call("text", k);
    }

    private void text() {
        int k = from(0, 3);
        String text = k == 0 ? law() : k == 1 ? tongues() : k == 2 ? court() : wants();
        for (int i = any(3) == 0 ? 1 + any(2) : 0; i > 0 && !text.isEmpty(); i--) text = spoilt(text);
        if (text.length() > 400) text = text.substring(0, 400);
        tell(k, text);
        call("fault", 0);
        call("fault", 1);
    }

    private void feed(String text) {
        for (int i = 0; i < text.length(); i += 20) {
            Object[] numbers = new Object[5];
            for (int j = 0; j < 5; j++) {
                int number = 0;
                for (int b = 0; b < 4; b++) {
                    int at = i + 4 * j + b;
                    number = number * 256 + (at < text.length() ? text.charAt(at) : 32);
                }
                numbers[j] = number;
            }
            call("feed", numbers);
        }
        call("end", text.length());
    }

    private static String spoilt(String text) {
        int at = any(text.length());
        String put = "" + " ;+-*/()<=>019axZ?\n\u00e9".charAt(any(20));
        int what = any(4);
        if (what == 0) return text.substring(0, at);
        if (what == 1) return text.substring(0, at) + text.substring(at + 1);
        return text.substring(0, at) + put + text.substring(what == 2 ? at : at + 1);
    }

    private static String lines(int k, int most) {
        StringBuilder all = new StringBuilder();
        int count = any(25) == 0 ? 17 : any(most);
        for (int i = 0; i < count; i++) all.append(k == 0 ? lawLine() : "").append(any(3) == 0 ? "\n" : "");
        return all.toString();
    }

    private static String law() {
        return lines(0, 6);
    }

    private static String lawLine() {
        String[] words = {"nods ", "cries ", "wins "};
        return words[any(3)] + sum() + (any(2) == 0 ? " when " + either(any(20) == 0 ? 9 : 2) : "") + ";";
    }

    private static String sum() {
        StringBuilder all = new StringBuilder(unit());
        for (int i = any(4); i > 0; i--) {
            int what = any(4);
            if (what == 0) all.append("/").append(any(12) == 0 ? any(2) * 7 : 1 + any(20));
            else all.append("*+-".charAt(what - 1)).append(unit());
        }
        return all.toString();
    }

    private static String unit() {
        String[] facts = {"skill", "grief", "false", "trust", "thing", "says", "step", "shown", "ports", "day"};
        return any(3) == 0 ? "" + any(any(2) == 0 ? 1100 : any(2) == 0 ? 10000 : 20) : facts[any(10)];
    }

    private static String either(int deep) {
        StringBuilder all = new StringBuilder(condition(deep));
        for (int i = any(3); i > 0; i--) all.append(any(2) == 0 ? " or " : " and ").append(condition(deep));
        return all.toString();
    }

    private static String condition(int deep) {
        int what = any(5);
        if (what == 0 && deep > 0 || deep > 4) return "not " + condition(deep - 1);
        if (what == 1 && deep > 0) return "(" + either(deep - 1) + ")";
        return sum() + "<=>".charAt(any(3)) + sum();
    }

    private String tongues() {
        StringBuilder all = new StringBuilder();
        for (int i = any(25) == 0 ? 17 : any(12); i > 0; i--) {
            all.append("power " + few(y.look(0)) + " thing " + few(12) + " says " + few(16) + ";");
        }
        return all.toString();
    }

    private static int few(int n) {
        return n < 1 || any(60) == 0 ? Math.max(0, n) : any(n);
    }

    private String court() {
        StringBuilder all = new StringBuilder();
        for (int i = any(25) == 0 ? 17 : any(14); i > 0; i--) {
            all.append("on " + (any(40) == 0 ? 1000 : Math.min(999, y.look(4) + any(12))));
            int what = any(4);
            if (what < 2) all.append(" send " + few(y.look(1)) + " " + few(y.look(0)) + ";");
            else if (what == 2) all.append(any(2) == 0 ? " home " + few(y.look(1)) + ";" : " mourn " + few(y.look(1)) + " " + few(10) + ";");
            else all.append(" gift " + few(y.look(0)) + " " + (1 + few(99)) + ";");
        }
        return all.toString();
    }

    private String wants() {
        StringBuilder all = new StringBuilder();
        for (int i = any(25) == 0 ? 17 : any(5); i > 0; i--) {
            all.append("power " + few(y.look(0)) + " wants");
            for (int j = any(30) == 0 ? 7 : 1 + any(any(2) == 0 ? 2 : 6); j > 0; j--) all.append(" " + few(any(8) == 0 ? 16 : things));
            all.append(";");
        }
        return all.toString();
    }

    // ---- riddles

    private void riddle() {
        int power = from(0, y.look(0) - 1);
        switch (any(24)) {
            case 0: call("shows", any(12) == 0 ? -1 : from(0, any(2) == 0 ? 2 : 11)); break;
            case 1: call("alike", power); break;
            case 2: call("weighs", from(0, 11), from(0, 99)); break;
            case 3: call("lightest", power, from(0, 1)); break;
            case 4: call("hears", any(12) == 0 ? -1 : any(3) == 0 ? -2 : from(0, any(2) == 0 ? 2 : 15)); break;
            case 5: call("heard", power, from(0, 1)); break;
            case 6: call("count", any(10) == 0 ? -1 : from(1, 99)); call("signs"); break;
            case 7: call("pins", from(1, 20), from(0, 1)); break;
            case 8: call("table", from(0, 1), from(0, 8), any(2) == 0 ? from(-1, 1) : from(-9, 9)); call("tables", from(0, 2)); break;
            case 9: call("stand", from(1, 12), from(0, 11), from(0, 2)); break;
            case 10: call("worth", from(0, 5), from(0, 5), any(2) == 0 ? from(0, 3) : from(0, 99)); break;
            case 11: call("sent", from(1, any(3) == 0 ? 6 : 4), from(0, 1)); break;
            case 12: call("load", any(14) == 0 ? -1 : from(1, 30), any(2) == 0 ? from(0, 4) : from(0, 99)); break;
            case 13: call("carried", any(2) == 0 ? from(0, 200) : from(0, 60), from(0, 1)); break;
            case 14: call("promise", any(16) == 0 ? -1 : from(0, 7), from(0, 7), from(0, 3)); call("kept", from(0, 2)); break;
            case 15: call("hat", from(0, 7), any(2) == 0 ? 255 : from(0, 255)); call("hats", from(1, 8)); break;
            case 16: call("border", any(16) == 0 ? -1 : from(0, any(2) == 0 ? 4 : 7), from(0, 7)); break;
            case 17: call("map", any(3) == 0 ? -1 : from(0, 4)); break;
            case 18: call("cloth", from(0, 1), any(20) == 0 ? -1 : from(0, any(2) == 0 ? 2 : 9)); call("cloths", from(0, 2)); break;
            case 19: call("interpreter", any(8) == 0 ? -1 : any(8) == 0 ? from(0, 43210) : row()); break;
            case 20: call("word", any(2) == 0 ? -1 : from(0, 4)); break;
            case 21: call("silence", from(0, 7), from(0, 7), from(0, 7), any(2) == 0); break;
            case 22: undoOrImage(); call("look", 13); break;
            default: if (any(4) == 0) text(); else hand(); break;
        }
    }

    private static int row() {
        List<Integer> digits = new ArrayList<>(List.of(0, 1, 2, 3, 4));
        int row = 0;
        while (!digits.isEmpty()) row = 10 * row + digits.remove(any(digits.size()));
        return row;
    }
}
