/** Promises 8 to 11: the tape, the four texts and their faults; how THE LAW is reckoned. */
public final class TextsTest {
    private static final Checks CHECKS = new Checks();

    private static void due(String what, long got, long want) {
        CHECKS.due(what, got, want);
    }

    private static void due(String what, boolean got, boolean want) {
        CHECKS.due(what, got, want);
    }

    public static void main(String[] args) {
        tape();
        kinds();
        lawFaults();
        nesting();
        tonguesFaults();
        courtFaults();
        wantsFaults();
        counts();
        reckoning();
        laws();
        tongues();
        wants();
        CHECKS.finish();
    }

    private static BasketEnvoys town() {
        BasketEnvoys x = new BasketEnvoys();
        x.power(3);
        x.power(4);
        x.mute(2, 3, true);
        x.mute(4, 5, false);
        x.mute(6, 7, false);
        return x;
    }

    private static void tape() {
        BasketEnvoys x = town();
        for (int i = 1; i <= 20; i++) {
            due("P8 bytes", x.feed(0x20202020, 0x0a0a0a0a, 0x20202020, 0x20202020, 0x20202020), 20 * i);
        }
        due("P8 full", x.feed(0, 0, 0, 0, 0), -1);
        due("P9 above", x.end(401), false);
        due("P9 below", x.end(-1), false);
        due("P9 all", x.end(400), true);
        due("P9 some", x.end(381), true);
        due("P8 no room for twenty", x.feed(0, 0, 0, 0, 0), -1);
        due("P9 nothing came", x.end(382), false);
        due("P9 some", x.end(380), true);
        due("P8 room again", x.feed(0x20202020, 0x20202020, 0x20202020, 0x20202020, 0x20202020), 400);
        due("P10 blanks alone", x.text(0), 0);
        due("P9 empty behind a text", x.end(1), false);
        due("P9 nothing of nothing", x.end(0), true);
        due("P8 from the start", x.feed(0x6e6f6473, 0x20373b80, 0, 0, 0), 20);
        due("P9 seven", x.end(7), true);
        due("P10 highest byte first", x.text(0), 1);
        due("P8 again", x.feed(0x6e6f6473, 0x20373b80, 0, 0, 0), 20);
        due("P9 eight", x.end(8), true);
        due("P10 byte 128", x.text(0), -1);
        due("P11 byte 128", x.fault(0), 1);
        due("P11 its place", x.fault(1), 7);
        due("P10 the law as it was", x.look(9), 1);
        CHECKS.refused(x, 1, "power 0 thing\t1 says 1;", 1, 13);
        CHECKS.refused(x, 1, "\u00ff", 1, 0);
        // as many tokens as there can be
        for (int k = 0; k < 4; k++) {
            CHECKS.refused(x, k, ";".repeat(400), 1, 0);
        }
        CHECKS.told(x, 0, "nods" + " ".repeat(2) + "1+".repeat(196) + "1;", 1);
        CHECKS.refused(x, 0, "nods" + " ".repeat(2) + "1+".repeat(197), 1, 400);
        CHECKS.refused(x, 1, "\u0000", 1, 0);
    }

    private static void kinds() {
        BasketEnvoys x = town();
        CHECKS.refused(x, 0, "?", 1, 0);
        for (int k : new int[] {-1, 4, Integer.MIN_VALUE, Integer.MAX_VALUE}) {
            Checks.feed(x, "nods ?");
            due("P10 no such text", x.text(k), -1);
            due("P11 tells 0", x.fault(0), 0);
            due("P11 tells no place", x.fault(1), -1);
            due("P10 tape empty", x.end(1), false);
        }
        due("P11 other what", x.fault(2), -1);
        due("P11 other what", x.fault(-1), -1);
        CHECKS.told(x, 0, "", 0);
        CHECKS.told(x, 0, "nods 1;cries 2;\nwins 3 ; ", 3);
        due("P46 law", x.look(9), 3);
        CHECKS.told(x, 1, "power 1thing 11says 15;", 1);
        due("P46 tongues", x.look(10), 1);
        CHECKS.told(x, 2, "on 999 send 2 1;on 0 home 0;on 5 gift 1 99;on 5 gift 1 1;on 1 mourn 2 9;on 1 mourn 2 0;", 6);
        due("P46 court", x.look(11), 6);
        CHECKS.told(x, 3, "power 1 wants 1 2 3 4 5 6;power 0 wants 0;", 2);
        due("P46 wants", x.look(12), 2);
        CHECKS.refused(x, 3, "power", 1, 5);
        due("P10 stays", x.look(12), 2);
        due("P10 stays", x.powerOf(1, 4), 6);
        CHECKS.told(x, 3, "\n ", 0);
        due("P10 empty", x.look(12), 0);
        due("P10 wants nothing now", x.powerOf(1, 4), 0);
    }

    private static void lawFaults() {
        BasketEnvoys x = town();
        CHECKS.refused(x, 0, "nods", 1, 4);
        CHECKS.refused(x, 0, "nods  ", 1, 6);
        CHECKS.refused(x, 0, "nods 5", 1, 6);
        CHECKS.refused(x, 0, "nods 5 ", 1, 7);
        CHECKS.refused(x, 0, "Nods 5;", 1, 0);
        CHECKS.refused(x, 0, "nodss 5;", 1, 0);
        CHECKS.refused(x, 0, "nod 5;", 1, 0);
        // all letters belong to a word, the signs beside them in the table of signs do not
        for (char letter : "azAZmM".toCharArray()) {
            CHECKS.refused(x, 0, "nods" + letter + " 5;", 1, 0);
            CHECKS.refused(x, 0, letter + "nods 5;", 1, 0);
        }
        for (char sign : "`{@[_,.:!".toCharArray()) {
            CHECKS.refused(x, 0, "nods" + sign + " 5;", 1, 4);
        }
        for (char sign : "/:".toCharArray()) {
            CHECKS.refused(x, 0, "nods 5" + sign + "x;", 1, sign == '/' ? 7 : 6);
        }
        for (char digit : "09".toCharArray()) {
            CHECKS.refused(x, 0, "nods 1234" + digit + ";", 1, 5);
        }
        CHECKS.refused(x, 0, "power 5;", 1, 0);
        CHECKS.refused(x, 0, "nods;", 1, 4);
        CHECKS.refused(x, 0, "nods 12345;", 1, 5);
        CHECKS.refused(x, 0, "nods 00001;", 1, 5);
        CHECKS.told(x, 0, "nods 0001;", 1);
        CHECKS.told(x, 0, "nods 9999;", 1);
        CHECKS.refused(x, 0, "nods 1 2;", 1, 7);
        CHECKS.refused(x, 0, "nods 1+;", 1, 7);
        CHECKS.refused(x, 0, "nods -1;", 1, 5);
        CHECKS.refused(x, 0, "nods (1);", 1, 5);
        CHECKS.refused(x, 0, "nods 1*2/x;", 1, 9);
        CHECKS.refused(x, 0, "nods 1/skill;", 1, 7);
        CHECKS.refused(x, 0, "nods 1/0;", 2, 7);
        CHECKS.refused(x, 0, "nods 1 / 0000 ?", 2, 9);
        CHECKS.refused(x, 0, "nods 1/12345;", 1, 7);
        CHECKS.told(x, 0, "nods 1/1*0;", 1);
        CHECKS.told(x, 0, "nods 0*0;", 1);
        CHECKS.refused(x, 0, "nods 1 when;", 1, 11);
        CHECKS.refused(x, 0, "nods 1 when 1;", 1, 13);
        CHECKS.refused(x, 0, "nods 1 when 1<;", 1, 14);
        CHECKS.refused(x, 0, "nods 1 when 1<2<3;", 1, 15);
        CHECKS.refused(x, 0, "nods 1 when 1<2 or;", 1, 18);
        CHECKS.refused(x, 0, "nods 1 when 1<2 and or", 1, 20);
        CHECKS.refused(x, 0, "nods 1 when not;", 1, 15);
        CHECKS.refused(x, 0, "nods 1 when ();", 1, 13);
        CHECKS.refused(x, 0, "nods 1 when (1=2;", 1, 16);
        CHECKS.refused(x, 0, "nods 1 when 1=2);", 1, 15);
        CHECKS.refused(x, 0, "nods 1 when (1)=2;", 1, 14);
        CHECKS.refused(x, 0, "nods 1 when 1=2 when 2=3;", 1, 16);
        CHECKS.refused(x, 0, "nods 1 when 1=2/0;", 2, 16);
        CHECKS.refused(x, 0, "nods 1;;", 1, 7);
        CHECKS.refused(x, 0, "nods 1; 5", 1, 8);
        CHECKS.refused(x, 0, "nods 1/0; ?", 2, 7);
        CHECKS.refused(x, 0, "nods ? 1/0;", 1, 5);
        CHECKS.refused(x, 0, "nods when 1=1;", 1, 5);
        CHECKS.refused(x, 0, "nods 1 or 1=1;", 1, 7);
        CHECKS.refused(x, 0, "nods 1<2;", 1, 6);
        CHECKS.refused(x, 0, "nods nods;", 1, 5);
    }

    private static void nesting() {
        BasketEnvoys x = town();
        String open = "((((((((";
        String close = "))))))))";
        CHECKS.told(x, 0, "nods 1 when " + open + "1=1" + close + ";", 1);
        CHECKS.refused(x, 0, "nods 1 when (" + open + "1=1" + close + ");", 3, 20);
        CHECKS.refused(x, 0, "nods 1 when " + open + "not 1=1" + close + ";", 3, 20);
        CHECKS.told(x, 0, "nods 1 when not not not not not not not not 1=1;", 1);
        CHECKS.refused(x, 0, "nods 1 when not not not not not not not not not 1=1;", 3, 44);
        CHECKS.refused(x, 0, "nods 1 when not not not not not not not not (1=1);", 3, 44);
        CHECKS.told(x, 0, "nods 1 when not(not(not(not(1=1 and 2=2)))) or not(not(not(not 1=1))) and " + open + "1=2" + close + ";", 1);
        CHECKS.told(x, 0, "nods 1 when not 1=1 and not 1=1 and not 1=1 and not 1=1 and not 1=1 and not 1=1 and not 1=1 and not 1=1"
            + " and not 1=1 and not 1=1 or (((((((1=1))))))) and (1=1) and not 1=1;", 1);
        CHECKS.refused(x, 0, "nods 1 when " + open + "1=1)((1=1;", 1, 24);
        CHECKS.refused(x, 0, "nods 1 when " + open + "1=1) or ((1=1;", 3, 29);
    }

    private static void tonguesFaults() {
        BasketEnvoys x = town();
        CHECKS.refused(x, 1, "thing 1", 1, 0);
        CHECKS.refused(x, 1, "power thing", 1, 6);
        CHECKS.refused(x, 1, "power 2 thing 3 says 4;", 2, 6);
        CHECKS.refused(x, 1, "power 1 thing 12 says 4;", 2, 14);
        CHECKS.refused(x, 1, "power 1 thing 11 says 16;", 2, 22);
        CHECKS.refused(x, 1, "power 1 thing 11 says 15", 1, 24);
        CHECKS.refused(x, 1, "power 1 says 11", 1, 8);
        CHECKS.refused(x, 1, "power 1 thing 11 power", 1, 17);
        CHECKS.refused(x, 1, "power 1 thing 11 says 1 2;", 1, 24);
        CHECKS.refused(x, 1, "power 1 thing 11 says 1; on", 1, 25);
        CHECKS.refused(x, 1, "power 10000 thing", 1, 6);
        CHECKS.refused(x, 1, "power 9999 thing", 2, 6);
        CHECKS.refused(x, 1, "power 1 thing 1 says 1; wants", 1, 24);
        CHECKS.refused(new BasketEnvoys(), 1, "power 0 thing", 2, 6);
    }

    private static void courtFaults() {
        BasketEnvoys x = town();
        CHECKS.refused(x, 2, "in 5", 1, 0);
        CHECKS.refused(x, 2, "on send", 1, 3);
        CHECKS.refused(x, 2, "on 1000 send", 2, 3);
        CHECKS.refused(x, 2, "on 1 on", 1, 5);
        CHECKS.refused(x, 2, "on 1 5", 1, 5);
        CHECKS.refused(x, 2, "on 1", 1, 4);
        CHECKS.refused(x, 2, "on 1 send 3 0;", 2, 10);
        CHECKS.refused(x, 2, "on 1 send 2 2;", 2, 12);
        CHECKS.refused(x, 2, "on 1 send 2;", 1, 11);
        CHECKS.refused(x, 2, "on 1 home 3;", 2, 10);
        CHECKS.refused(x, 2, "on 1 home 2 1;", 1, 12);
        CHECKS.refused(x, 2, "on 1 gift 2 1;", 2, 10);
        CHECKS.refused(x, 2, "on 1 gift 1 0;", 2, 12);
        CHECKS.refused(x, 2, "on 1 gift 1 100;", 2, 12);
        CHECKS.refused(x, 2, "on 1 gift 1;", 1, 11);
        CHECKS.refused(x, 2, "on 1 mourn 3 1;", 2, 11);
        CHECKS.refused(x, 2, "on 1 mourn 2 10;", 2, 13);
        CHECKS.refused(x, 2, "on 1 mourn 2 9", 1, 14);
        CHECKS.refused(x, 2, "on 1 home 2; on 1 power", 1, 18);
        BasketEnvoys none = new BasketEnvoys();
        CHECKS.refused(none, 2, "on 1 home 0;", 2, 10);
        CHECKS.refused(none, 2, "on 1 gift 0 1;", 2, 10);
    }

    private static void wantsFaults() {
        BasketEnvoys x = town();
        CHECKS.refused(x, 3, "wants", 1, 0);
        CHECKS.refused(x, 3, "power 2 wants 1;", 2, 6);
        CHECKS.refused(x, 3, "power 1 1", 1, 8);
        CHECKS.refused(x, 3, "power 1 wants ;", 1, 14);
        CHECKS.refused(x, 3, "power 1 wants 16;", 2, 14);
        CHECKS.refused(x, 3, "power 1 wants 1 16;", 2, 16);
        CHECKS.refused(x, 3, "power 1 wants 1 2 3 4 5 6 7;", 3, 26);
        CHECKS.refused(x, 3, "power 1 wants 1 2 3 4 5 6 16;", 2, 26);
        CHECKS.refused(x, 3, "power 1 wants 1 2 3 4 5 6 10000;", 1, 26);
        CHECKS.refused(x, 3, "power 1 wants 1 2 3 4 5 6 power", 1, 26);
        CHECKS.refused(x, 3, "power 1 wants 1 2", 1, 17);
        CHECKS.refused(x, 3, "power 1 wants 1 thing", 1, 16);
    }

    private static void counts() {
        BasketEnvoys x = town();
        String[] lines = {"nods 1;", "power 0 thing 1 says 2;", "on 1 home 0;", "power 1 wants 3;"};
        String[] starts = {"cries ", "power 0", "on 3", "power 0"};
        for (int k = 0; k < 4; k++) {
            String sixteen = lines[k].repeat(16);
            CHECKS.told(x, k, sixteen, 16);
            due("P46 sixteen", x.look(9 + k), 16);
            CHECKS.refused(x, k, sixteen + starts[k] + "?", 3, sixteen.length());
            CHECKS.refused(x, k, sixteen + " ?", 1, sixteen.length() + 1);
            CHECKS.refused(x, k, sixteen + ";", 1, sixteen.length());
            CHECKS.refused(x, k, sixteen + "7", 1, sixteen.length());
        }
        CHECKS.refused(x, 0, lines[0].repeat(16) + "when", 1, 112);
        CHECKS.refused(x, 2, lines[2].repeat(16) + "home", 1, 192);
    }

    /** E and B by what cries tells of mute 0 (skill 2, grief 3, false, at home). */
    private static void reckoning() {
        String[] sums = {
            "skill + grief * 10", "grief - skill - 1 + 7", "100 / 7", "100 / 7 / 2", "100 / 7 * 2", "100 * 2 / 7",
            "2 * 3 * 4 + 5 * 6 - 7", "7 - 5 * 6 / 4 + 90", "10 - 7 / 2", "10 - 20 / 3 + 5", "false * 9 + trust",
            "thing + says + 3 + step", "shown + ports", "day + 1", "9999 * 9999 * 9999 / 9999", "1 - 7 / 2 + 100",
            "0 - 7 * 1", "200 + 3 - 7 / 2 * 3", "skill - grief * 3 / 2 + 50",
        };
        int[] dues = {
            32, 7, 14, 7, 28, 28, 47, 90, 7, 9, 9, 3, 10, 1, held(9999 * 9999 * 9999 / 9999), 98, 0, 194, 48,
        };
        for (int i = 0; i < sums.length; i++) {
            BasketEnvoys x = town();
            CHECKS.told(x, 0, "cries " + sums[i] + ";", 1);
            due("P12 cries " + sums[i], x.of(0, 7), dues[i]);
        }
        // towards 0, not down: (0 - 7) / 2 as a unit can't be told, but through wrap-around a negative product can
        BasketEnvoys negative = town();
        int product = 9999 * 9999 * 30;
        CHECKS.told(negative, 0, "cries 9999 * 9999 * 30 / 9998 + 1000 * 200 - " + (product / 9998 + 200000 - 5) / 100 + " * 100;", 1);
        due("P12 towards 0", negative.of(0, 7), held(product / 9998 + 200000 - (product / 9998 + 200000 - 5) / 100 * 100));
        String[] conditions = {
            "1 = 1", "1 < 1", "1 > 1", "2 > 1", "1 < 2", "not 1 = 1", "not not 1 = 1",
            "1 = 1 or 1 = 2 and 1 = 2", "(1 = 1 or 1 = 2) and 1 = 2", "1 = 2 and 1 = 2 or 1 = 1",
            "not 1 = 2 and 1 = 2", "not (1 = 2 and 1 = 2)", "1 = 2 or 1 = 2 or 3 = 3", "1 = 1 and 2 = 2 and 3 = 4",
            "1 = 2 or 1 = 1 and 2 = 2 or 1 = 2", "1 + 1 = 4 - 2", "skill * 3 > grief + 2", "skill * 3 > grief + 3",
            "1 = 1 and 1 = 2 or 1 = 1 and 1 = 2", "1 = 1 and (1 = 2 or 1 = 1) and 1 = 1", "not 1 = 2 or 1 = 2",
        };
        String truths = "100110110101101110011";
        for (int i = 0; i < conditions.length; i++) {
            BasketEnvoys x = town();
            CHECKS.told(x, 0, "cries 7 when " + conditions[i] + ";cries 5;", 2);
            due("P12 when " + conditions[i], x.of(0, 7), truths.charAt(i) == '1' ? 7 : 5);
        }
    }

    private static int held(int v) {
        return Math.max(0, Math.min(1000, v));
    }

    private static void laws() {
        BasketEnvoys x = town();
        due("P12 no law", x.of(0, 7), 150);
        due("P12 no law, not false", x.of(1, 7), 0);
        CHECKS.told(x, 0, "cries 11 when skill = 2; cries 22 when skill = 4; nods 33; cries 44; cries 55;", 5);
        due("P12 first line", x.of(0, 7), 11);
        due("P12 second line", x.of(1, 7), 22);
        due("P12 line without when", x.of(2, 7), 44);
        CHECKS.told(x, 0, "cries 11 when skill = 2; nods 33;", 2);
        due("P12 no line holds", x.of(1, 7), 0);
        x.set(3, 1, 1);
        due("P12 no line holds, false", x.of(1, 7), 250);
        x.act(2, 0, 5);
        x.act(0, 0, 1);
        due("P12 nods by law", x.of(0, 8), 33);
        due("P12 wins without", x.of(0, 9), 1);
        CHECKS.told(x, 0, "wins 10 * step + thing when false = 1 and trust = 4 and says = 5; wins 77; nods 1 when day = 9;", 3);
        due("P12 wins", x.of(0, 9), 5);
        due("P12 nods without", x.of(0, 8), 60 * 2 + 5 * 4);
        x.set(3, 0, 0);
        due("P12 wins else", x.of(0, 9), 77);
        CHECKS.refused(x, 0, "wins 5; ?", 1, 8);
        due("P10 the law stays with a fault", x.of(0, 9), 77);
        CHECKS.told(x, 0, "", 0);
        due("P12 no law now", x.of(0, 9), 1);
        CHECKS.told(x, 0, "cries ports * 10 + day;", 1);
        x.set(4, 0, 50);
        due("P12 ports", x.of(2, 7), 500);
        // many lines, again and again: each line is reckoned by itself, and each law from its beginning
        for (int i = 1; i <= 9; i++) {
            CHECKS.told(x, 0, "cries 1 when 1=2 or 1=3;".repeat(15) + "cries " + i + "+2*3;", 16);
            due("P12 the sixteenth line", x.of(2, 7), i + 6);
        }
        CHECKS.told(x, 0, "cries 1" + "+1".repeat(196) + ";", 1);
        due("P12 a long sum", x.of(2, 7), 197);
        String deep = "1=2 or 1=1 and (".repeat(8);
        CHECKS.told(x, 0, "cries 9 when " + deep + "1=2 or 1=1 and 1+2*3 = 8-3+2*1" + ")".repeat(8) + ";", 1);
        due("P12 deep in brackets", x.of(2, 7), 9);
        CHECKS.told(x, 0, "cries 9 when " + deep + "1=2 or 1=1 and 1+2*3 = 8-3+2*2" + ")".repeat(8) + "; cries 8;", 2);
        due("P12 deep in brackets, not so", x.of(2, 7), 8);
    }

    private static void tongues() {
        BasketEnvoys x = town();
        CHECKS.told(x, 1, "power 0 thing 3 says 9; power 0 thing 3 says 8; power 1 thing 0 says 15;", 3);
        due("P13 the last", x.powerOf(0, 103), 8);
        due("P13 other power", x.powerOf(1, 103), 3);
        due("P13 most", x.powerOf(1, 100), 15);
        CHECKS.refused(x, 1, "power 0 thing 3 says 1; ?", 1, 24);
        due("P10 tongues stay", x.powerOf(0, 103), 8);
        CHECKS.told(x, 1, "power 1 thing 11 says 0;", 1);
        due("P13 told anew", x.powerOf(0, 103), 3);
        due("P13 told anew", x.powerOf(1, 100), 0);
        due("P13 told anew", x.powerOf(1, 111), 0);
    }

    private static void wants() {
        BasketEnvoys x = town();
        CHECKS.told(x, 3, "power 0 wants 1 2 3; power 1 wants 9; power 0 wants 4 5;", 3);
        due("P13 the last", x.powerOf(0, 4), 2);
        due("P13 first", x.powerOf(0, 10), 4);
        due("P13 second", x.powerOf(0, 11), 5);
        due("P13 none", x.powerOf(0, 12), -1);
        x.act(2, 0, 4);
        x.act(0, 0, 0);
        Checks.tell(x, 0, "nods 1000; cries 0;");
        x.days(1);
        due("P13 step", x.powerOf(0, 1), 1);
        CHECKS.refused(x, 3, "power 0 wants 1; ?", 1, 17);
        due("P10 step stays with a fault", x.powerOf(0, 1), 1);
        Checks.tell(x, 0, "nods 1000;");
        due("P10 step stays by the law", x.powerOf(0, 1), 1);
        Checks.tell(x, 1, "");
        due("P10 step stays by tongues", x.powerOf(0, 1), 1);
        CHECKS.told(x, 3, "power 0 wants 4 5;", 1);
        due("P10 step is 0", x.powerOf(0, 1), 0);
    }
}
