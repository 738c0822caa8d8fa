/** Promises 8 to 11, sentence by sentence: the tape, the texts, their tokens and their faults. */
public final class BoundsOfTextsTest {
    private static final int LEAST = Integer.MIN_VALUE;
    private static final int MOST = Integer.MAX_VALUE;
    private static final int BLANKS = 0x20202020;
    private static final String[] LINES = {"nods 1;", "power 0 thing 1 says 2;", "on 1 home 0;", "power 0 wants 3;"};

    public static void main(String[] args) {
        Sentences.run(BoundsOfTextsTest.class, 8, 9, 10, 11);
    }

    private static void due(String what, long got, long want) {
        Sentences.due(what, got, want);
    }

    private static void due(String what, boolean got, boolean want) {
        Sentences.due(what, got, want);
    }

    /** Two powers and three mutes; nothing told. */
    private static BasketEnvoys town() {
        BasketEnvoys x = new BasketEnvoys();
        x.power(3);
        x.power(4);
        x.mute(2, 3, true);
        x.mute(4, 5, false);
        x.mute(6, 7, false);
        return x;
    }

    /** The text is told, with so many lines and no fault. */
    private static void told(int k, String text, int lines) {
        BasketEnvoys x = town();
        due("text " + k + " \"" + text + "\"", Checks.tell(x, k, text), lines);
        due("its fault", x.fault(0), 0);
        due("its place", x.fault(1), -1);
        due("the tape behind it", x.end(1), false);
        due("its lines", x.look(9 + k), lines);
    }

    /** The text has this fault at this place. */
    private static void refused(int k, String text, int fault, int place) {
        BasketEnvoys x = town();
        due("text " + k + " \"" + text + "\"", Checks.tell(x, k, text), -1);
        due("fault of \"" + text + "\"", x.fault(0), fault);
        due("place of \"" + text + "\"", x.fault(1), place);
        due("the tape behind it", x.end(1), false);
        due("its lines", x.look(9 + k), 0);
    }

    private static BasketEnvoys withTape(int length) {
        BasketEnvoys x = town();
        for (int i = 0; i < length; i += 20) {
            x.feed(BLANKS, BLANKS, BLANKS, BLANKS, BLANKS);
        }
        x.end(length);
        return x;
    }

    // ---- 8: feed

    static void p08TwentyBytesEachUpTo400() {
        BasketEnvoys x = town();
        for (int i = 1; i <= 20; i++) {
            due("feed " + i, x.feed(BLANKS, BLANKS, BLANKS, BLANKS, BLANKS), 20 * i);
        }
        due("four hundred", x.end(400), true);
        due("not more", x.end(401), false);
    }

    static void p08MoreThan400CantBe() {
        for (int length : new int[] {381, 390, 399, 400}) {
            Twins.changesNothing("behind " + length, () -> withTape(length), -1, x -> x.feed(1, 2, 3, 4, 5));
        }
        due("behind 380", withTape(380).feed(BLANKS, BLANKS, BLANKS, BLANKS, BLANKS), 400);
        due("behind 379", withTape(379).feed(BLANKS, BLANKS, BLANKS, BLANKS, BLANKS), 399);
        due("behind 0", withTape(0).feed(BLANKS, BLANKS, BLANKS, BLANKS, BLANKS), 20);
        due("behind 1", withTape(1).feed(BLANKS, BLANKS, BLANKS, BLANKS, BLANKS), 21);
    }

    static void p08OfEachNumberTheHighestFirst() {
        // c r i e / s . 1 2 / 3 4 ; . / c r i e / s . 5 ;
        BasketEnvoys x = town();
        x.feed(0x63726965, 0x73203132, 0x33343b20, 0x63726965, 0x7320353b);
        due("two lines", x.text(0), 2);
        due("held", x.of(0, 7), 1000);
        x.feed(0x63726965, 0x73203132, 0x33303b20, 0x6e6f6473, 0x20373b0a);
        x.end(10);
        due("its end is cut", x.text(0), -1);
        due("its place", x.fault(1), 10);
        x.feed(0x63726965, 0x73202020, 0x31323020, 0x3b6e6f64, 0x7320313b);
        due("told", x.text(0), 2);
        due("cries", x.of(0, 7), 120);
    }

    static void p08BytesOf128AndMoreAreBytes() {
        for (int high : new int[] {0x80, 0xa0, 0xff, 0x7f}) {
            for (int at = 0; at < 20; at++) {
                int[] numbers = {BLANKS, BLANKS, BLANKS, BLANKS, BLANKS};
                int shift = 24 - 8 * (at % 4);
                numbers[at / 4] = BLANKS & ~(255 << shift) | high << shift;
                BasketEnvoys x = town();
                x.feed(numbers[0], numbers[1], numbers[2], numbers[3], numbers[4]);
                due("byte " + high, x.text(0), -1);
                due("its place", x.fault(1), at);
            }
        }
    }

    static void p08TheyComeBehindTheTape() {
        BasketEnvoys x = town();
        Checks.feed(x, "cries");
        due("behind five", x.feed(0x2034323b, BLANKS, BLANKS, BLANKS, BLANKS), 25);
        due("told", x.text(0), 1);
        due("cries", x.of(0, 7), 42);
    }

    static void p08FeedingChangesNothingElse() {
        Twins.alikeBut("feed", Twins::full, () -> {
            BasketEnvoys x = Twins.full();
            due("feed", x.feed(1, 2, 3, 4, 5), 28);
            return x;
        }, "the tape");
    }

    // ---- 9: end

    static void p09TheFirstNBytesAlone() {
        BasketEnvoys x = town();
        Checks.feed(x, "cries 42;nods 5;");
        due("nine", x.end(9), true);
        due("not ten now", x.end(10), false);
        due("told", x.text(0), 1);
        due("cries", x.of(0, 7), 42);
        Checks.feed(x, "cries 42;nods 5;");
        due("eight", x.end(8), true);
        due("cut", x.text(0), -1);
        due("place", x.fault(1), 8);
    }

    static void p09From0ToAllItHas() {
        for (int length : new int[] {0, 1, 20, 399, 400}) {
            BasketEnvoys x = withTape(length);
            due("more than " + length, x.end(length + 1), false);
            due("all " + length, x.end(length), true);
            due("none of " + length, x.end(0), true);
            due("none is left", x.end(1), false);
        }
    }

    static void p09MoreThanItHasCantBe() {
        for (int n : new int[] {9, 20, 400, 401, MOST}) {
            Twins.changesNothing("end " + n, 0, x -> Twins.yes(x.end(n)));
        }
    }

    static void p09BelowNothingCantBe() {
        for (int n : new int[] {-1, -2, LEAST}) {
            Twins.changesNothing("end " + n, 0, x -> Twins.yes(x.end(n)));
        }
    }

    static void p09AllOfItChangesNothing() {
        Twins.changesNothing("end 8", 1, x -> Twins.yes(x.end(8)));
    }

    static void p09EndingChangesNothingElse() {
        Twins.alikeBut("end", Twins::full, () -> {
            BasketEnvoys x = Twins.full();
            due("end", x.end(3), true);
            return x;
        }, "the tape");
    }

    // ---- 10: text

    static void p10NoSuchTextTellsNothingAndEmptiesTheTape() {
        for (int k : new int[] {-1, LEAST, 4, 5, MOST}) {
            BasketEnvoys x = Twins.full();
            due("text " + k, x.text(k), -1);
            due("fault", x.fault(0), 0);
            due("place", x.fault(1), -1);
            due("tape", x.end(1), false);
            Twins.alikeBut("text " + k, () -> {
                BasketEnvoys y = Twins.full();
                y.text(k);
                return y;
            }, () -> {
                BasketEnvoys y = Twins.full();
                y.end(0);
                return y;
            }, "the fault");
        }
    }

    static void p10AnEmptyTextHasNoLines() {
        for (int k = 0; k < 4; k++) {
            for (String text : new String[] {"", " ", "\n", " \n \n", " ".repeat(400)}) {
                told(k, text, 0);
                BasketEnvoys x = town();
                Checks.tell(x, k, LINES[k]);
                due("one line", x.look(9 + k), 1);
                due("no line", Checks.tell(x, k, text), 0);
                due("told anew", x.look(9 + k), 0);
            }
        }
    }

    static void p10ATextAsLongAsTheTape() {
        String[] lines = {"nods 1+1+1+1+1+1+1+1+1+1;", "power 0 thing 11 says 15;", "on 999 mourn  2        9;",
            "power 1 wants  1 2 3 4 5;"};
        for (int k = 0; k < 4; k++) {
            due("as long", lines[k].length() * 16, 400);
            told(k, lines[k].repeat(16), 16);
            told(k, " ".repeat(400 - lines[k].length()) + lines[k], 1);
            told(k, lines[k] + " ".repeat(400 - lines[k].length()), 1);
            refused(k, lines[k].repeat(15) + lines[k].replace(';', ' '), 1, 400);
        }
        refused(0, "nods " + "1+".repeat(197) + "1", 1, 400);
        refused(0, "nods 1" + "+".repeat(394), 1, 7);
        for (int k = 0; k < 4; k++) {
            refused(k, ";".repeat(400), 1, 0);
            refused(k, "x".repeat(400), 1, 0);
            refused(k, "7".repeat(400), 1, 0);
        }
        told(0, "nods " + "1+".repeat(196) + "11;", 1);
        told(0, "nods 1" + "*1+1".repeat(98) + " ;", 1);
    }

    static void p10SixteenLinesAndNotSeventeen() {
        for (int k = 0; k < 4; k++) {
            told(k, LINES[k].repeat(15), 15);
            told(k, LINES[k].repeat(16), 16);
            refused(k, LINES[k].repeat(17), 3, 16 * LINES[k].length());
        }
    }

    static void p10WithAFaultTheTextStaysAsItWas() {
        for (int k = 0; k < 4; k++) {
            Twins.faulty(Twins::full, k, LINES[k] + "?", 1, LINES[k].length());
            Twins.faulty(Twins::full, k, "?", 1, 0);
            Twins.faulty(Twins::full, k, LINES[k].substring(0, LINES[k].length() - 1), 1, LINES[k].length() - 1);
            Twins.faulty(Twins::full, k, LINES[k].repeat(17), 3, 16 * LINES[k].length());
        }
        Twins.faulty(Twins::full, 0, "cries 1;nods 1/0;", 2, 15);
        Twins.faulty(Twins::full, 1, "power 0 thing 3 says 1;power 3", 2, 29);
        Twins.faulty(Twins::full, 2, "on 1 gift 0 9;on 1 gift 0 100;", 2, 26);
        Twins.faulty(Twins::full, 3, "power 0 wants 1;power 1 wants 16;", 2, 30);
    }

    static void p10TheTapeIsEmptyInEachCase() {
        for (int k = -2; k < 6; k++) {
            for (String text : new String[] {"", "?", "nods 1;"}) {
                BasketEnvoys x = town();
                Checks.feed(x, text);
                x.text(k);
                due("end 1 behind " + k + " " + text, x.end(1), false);
                due("feed behind " + k + " " + text, x.feed(BLANKS, BLANKS, BLANKS, BLANKS, BLANKS), 20);
            }
        }
    }

    static void p10OnlyThatTextIsTold() {
        for (int k = 0; k < 4; k++) {
            BasketEnvoys x = town();
            Checks.tell(x, k, LINES[k].repeat(3));
            for (int other = 0; other < 4; other++) {
                due("lines of " + other + " behind " + k, x.look(9 + other), other == k ? 3 : 0);
            }
        }
    }

    static void p10ToldAnewNothingOfTheOldOneStays() {
        BasketEnvoys x = town();
        Checks.tell(x, 0, "cries 5 when skill=2;cries 9;");
        Checks.tell(x, 0, "cries 7 when skill=3;");
        due("cries by no line", x.of(0, 7), 150);
        Checks.tell(x, 2, "on 0 gift 0 5;on 0 gift 1 9;");
        Checks.tell(x, 2, "on 0 gift 0 6;");
        Checks.tell(x, 3, "power 0 wants 1 2;power 1 wants 3;");
        Checks.tell(x, 3, "power 1 wants 4;");
        due("wants nothing", x.powerOf(0, 4), 0);
        due("wants", x.powerOf(1, 10), 4);
        x.days(1);
        due("one gift", x.powerOf(0, 0), 9);
        due("no gift", x.powerOf(1, 0), 4);
    }

    static void p10ToldManyTimesEachFromItsBeginning() {
        BasketEnvoys x = town();
        for (int i = 1; i <= 9; i++) {
            due("lines", Checks.tell(x, 0, "cries 1+1 when 1=2;".repeat(15) + "cries " + i + "+2*3 when 1=1 and 2=2;"), 16);
            due("cries", x.of(0, 7), i + 6);
        }
    }

    static void p10InWhateverOrderTheyAreTold() {
        String[] texts = {"nods 1000;cries 0;wins 2;", "power 0 thing 1 says 15;power 1 thing 0 says 1;", "on 0 gift 1 9;on 1 mourn 2 9;",
            "power 0 wants 15 0;power 1 wants 7;"};
        String first = "";
        for (int order = 0; order < 256; order++) {
            BasketEnvoys x = town();
            x.act(2, 0, 1);
            x.act(2, 0, 0);
            x.act(0, 0, 0);
            int told = 0;
            for (int i = 0; i < 4; i++) {
                int k = order >> 2 * i & 3;
                Checks.tell(x, k, texts[k]);
                told |= 1 << k;
            }
            if (told == 15) {
                x.state(1);
                x.days(2);
                due("treaties", x.powerOf(0, 3), 1);
                due("gift", x.powerOf(1, 0), 13);
                due("grief", x.of(2, 1), 9);
                due("trust", x.powerOf(0, 0), 7);
                String seen = Twins.being(x);
                first = first.isEmpty() ? seen : first;
                Sentences.due("order " + order, seen, first);
            }
        }
    }

    static void p10WantsToldMakeEachStep0() {
        BasketEnvoys x = town();
        Checks.tell(x, 0, "nods 1000;cries 0;");
        for (int i = 0; i < 2; i++) {
            x.act(2, i, 3);
            x.act(2, i, 3);
        }
        Checks.tell(x, 3, "power 0 wants 3 3;power 1 wants 3 3;");
        x.act(0, 0, 0);
        x.act(0, 1, 1);
        x.days(1);
        due("step of 0", x.powerOf(0, 1), 1);
        due("step of 1", x.powerOf(1, 1), 1);
        for (int k = 0; k < 3; k++) {
            Checks.tell(x, k, "");
            due("not by text " + k, x.powerOf(0, 1), 1);
        }
        Checks.tell(x, 3, "power 0 wants 16;");
        due("not with a fault", x.powerOf(0, 1), 1);
        Checks.tell(x, 3, "power 0 wants 3 3;");
        due("step of one told", x.powerOf(0, 1), 0);
        due("step of one not told", x.powerOf(1, 1), 0);
        due("treaties stay", x.powerOf(0, 3), 0);
        due("nods stay", x.powerOf(0, 2), 1);
    }

    static void p10BlanksAre32And10Alone() {
        for (int c = 0; c < 256; c++) {
            boolean isBlank = c == 32 || c == 10;
            for (int k = 0; k < 4; k++) {
                if (isBlank) {
                    told(k, "" + (char) c, 0);
                } else {
                    refused(k, "" + (char) c, 1, 0);
                }
            }
        }
    }

    static void p10WhatCanStandBehindAWord() {
        for (int c = 0; c < 256; c++) {
            String text = "nods" + (char) c + "7;";
            if (c == 32 || c == 10 || c >= '0' && c <= '9') {
                told(0, text, 1);
            } else if (c >= 'a' && c <= 'z' || c >= 'A' && c <= 'Z') {
                refused(0, text, 1, 0);
            } else {
                refused(0, text, 1, 4);
            }
        }
    }

    static void p10WhatCanStandBehindANumber() {
        for (int c = 0; c < 256; c++) {
            String text = "nods 7" + (char) c + "8;";
            if (c >= '0' && c <= '9' || "+-*/".indexOf(c) >= 0) {
                told(0, text, 1);
            } else if (c == 32 || c == 10 || c == ';') {
                refused(0, text, 1, 7);
            } else {
                refused(0, text, 1, 6);
            }
        }
    }

    static void p10WhatCanStandInACondition() {
        for (int c = 0; c < 256; c++) {
            String text = "nods 7 when 7" + (char) c + "8;";
            if ("<=>".indexOf(c) >= 0) {
                told(0, text, 1);
            } else if (c >= '0' && c <= '9' || "+-*/".indexOf(c) >= 0) {
                refused(0, text, 1, 15);
            } else {
                refused(0, text, 1, c == 32 || c == 10 ? 14 : 13);
            }
        }
    }

    static void p10CapitalsAreLettersButNoKeywords() {
        for (String word : new String[] {"Nods", "NODS", "nodS", "nodsa", "nodsz", "nodsA", "nodsZ", "anods", "nod", "n", "Z"}) {
            refused(0, word + " 7;", 1, 0);
        }
        refused(0, "nods skilL;", 1, 5);
        refused(1, "poweR 0 thing 0 says 0;", 1, 0);
        refused(2, "On 0 home 0;", 1, 0);
        refused(3, "power 0 Wants 0;", 1, 8);
    }

    static void p10KeywordsOfAnotherTextAreNone() {
        String[][] words = {
            {"nods", "cries", "wins"}, {"power"}, {"on"}, {"power"},
        };
        for (int k = 0; k < 4; k++) {
            for (int other = 0; other < 4; other++) {
                for (String word : words[other]) {
                    boolean isOne = java.util.Arrays.asList(words[k]).contains(word);
                    refused(k, word, 1, isOne ? word.length() : 0);
                }
            }
        }
        refused(0, "nods power;", 1, 5);
        refused(0, "nods on;", 1, 5);
        refused(0, "nods wants;", 1, 5);
    }

    static void p10NumbersOf1To4Digits() {
        for (String number : new String[] {"0", "1", "00", "01", "000", "001", "0000", "0001", "9", "99", "999", "9999"}) {
            told(0, "cries " + number + ";", 1);
            BasketEnvoys x = town();
            Checks.tell(x, 0, "cries " + number + ";");
            due(number, x.of(0, 7), Math.min(1000, Integer.parseInt(number)));
        }
        for (String number : new String[] {"00000", "00001", "10000", "99999", "1234567890", "0".repeat(390)}) {
            refused(0, "cries " + number + ";", 1, 6);
        }
        told(1, "power 0001 thing 0011 says 0015;", 1);
        refused(1, "power 00001 thing 0 says 0;", 1, 6);
        refused(2, "on 00001 home 0;", 1, 3);
        refused(3, "power 0 wants 00001;", 1, 14);
    }

    static void p10AllWordsAndSignsOfALaw() {
        told(0, "nods skill+grief-false*trust/7;cries thing;wins says*step-shown+ports*day;", 3);
        told(0, "nods 1 when 1<2 and 2>1 or not 1=2 and (1=1 or 2=2);", 1);
        told(0, "nods\n1\nwhen(1=1)or(2=2)and not(3=3);", 1);
        for (String word : "nods cries wins".split(" ")) {
            told(0, word + " 1;", 1);
        }
        for (String word : "skill grief false trust thing says step shown ports day".split(" ")) {
            told(0, "nods " + word + " when " + word + "=" + word + ";", 1);
        }
        for (String word : "when or and not nods cries wins".split(" ")) {
            refused(0, "nods " + word + ";", 1, 5);
        }
    }

    // ---- 11: fault

    static void p11What0And1AndNoOther() {
        BasketEnvoys x = town();
        Checks.tell(x, 0, "nods 1/0;");
        due("fault", x.fault(0), 2);
        due("place", x.fault(1), 7);
        for (int what : new int[] {-1, LEAST, 2, 3, MOST}) {
            Twins.changesNothing("what " + what, -1, y -> y.fault(what));
        }
    }

    static void p11AskingChangesNothing() {
        Twins.changesNothing("fault", 2, x -> x.fault(0));
        Twins.changesNothing("place", 6, x -> x.fault(1));
    }

    static void p11OfTheLatestText() {
        BasketEnvoys x = town();
        Checks.tell(x, 0, "nods 1/0;");
        Checks.tell(x, 1, "?");
        due("fault", x.fault(0), 1);
        due("place", x.fault(1), 0);
        Checks.feed(x, "nods 1/0;");
        due("not by feeding", x.fault(1), 0);
        x.text(0);
        due("fault", x.fault(0), 2);
        due("place", x.fault(1), 7);
        Checks.tell(x, 3, "");
        due("none", x.fault(0), 0);
        due("no place", x.fault(1), -1);
        Checks.tell(x, 3, "power 0 wants 1 2 3 4 5 6 7;");
        due("fault", x.fault(0), 3);
        x.text(9);
        due("none of no text", x.fault(0), 0);
        due("no place of no text", x.fault(1), -1);
    }

    static void p11TheEndIsTheTextsLength() {
        String[] lines = {"nods 1 when not ( 1 = 2 / 3 ) ;", "power 0 thing 1 says 2 ;", "on 1 send 0 0 ;", "power 0 wants 1 ;"};
        for (int k = 0; k < 4; k++) {
            for (int i = 1; i < lines[k].length(); i++) {
                String text = lines[k].substring(0, i);
                boolean isWhole = lines[k].charAt(i) == ' ' || lines[k].charAt(i - 1) == ' ';
                if (isWhole) {
                    refused(k, text, 1, text.length());
                    refused(k, text + "\n ", 1, text.length() + 2);
                }
            }
        }
    }

    static void p11TheFirstByItsPlace() {
        refused(0, "nods 1/0;?", 2, 7);
        refused(0, "nods ?1/0;", 1, 5);
        refused(0, "?nods 1/0;", 1, 0);
        refused(0, "nods 1 when ((((((((( 1/0", 3, 20);
        refused(0, "nods 1/0 when (((((((((1", 2, 7);
        refused(1, "power 2 thing 12", 2, 6);
        refused(1, "power 1 thing 12 says 16", 2, 14);
        refused(1, "power 2?", 2, 6);
        refused(1, "power?2", 1, 5);
        refused(2, "on 1000 send 3 2;", 2, 3);
        refused(2, "on 1 send 3 2;", 2, 10);
        refused(3, "power 0 wants 1 2 3 4 5 6 7 16", 3, 26);
        refused(3, "power 0 wants 1 2 3 4 5 16 7 7", 2, 24);
        for (int k = 0; k < 4; k++) {
            refused(k, "?" + LINES[k].repeat(17), 1, 0);
            refused(k, LINES[k].repeat(17) + "?", 3, 16 * LINES[k].length());
        }
    }

    static void p11AtOnePlaceTheLeast() {
        refused(3, "power 0 wants 1 2 3 4 5 6 16;", 2, 26);
        refused(3, "power 0 wants 1 2 3 4 5 6 9999;", 2, 26);
        refused(3, "power 0 wants 1 2 3 4 5 6 10000;", 1, 26);
        refused(3, "power 0 wants 1 2 3 4 5 6 15;", 3, 26);
        refused(0, "nods 1/00000;", 1, 7);
        refused(2, "on 10000 home 0;", 1, 3);
        for (int k = 0; k < 4; k++) {
            refused(k, LINES[k].repeat(16) + "?", 1, 16 * LINES[k].length());
            refused(k, LINES[k].repeat(16) + ";", 1, 16 * LINES[k].length());
            refused(k, LINES[k].repeat(16) + "when", 1, 16 * LINES[k].length());
        }
    }

    static void p11APartBy0() {
        for (String zero : new String[] {"0", "00", "000", "0000"}) {
            refused(0, "nods 1/" + zero + ";", 2, 7);
            refused(0, "nods 1 when 1/" + zero + "=1;", 2, 14);
            refused(0, "nods 1 when 1=1/" + zero + ";", 2, 16);
            refused(0, "nods 4*5/3/ " + zero + ";", 2, 12);
        }
        told(0, "nods 1/1;", 1);
        told(0, "nods 1/9999;", 1);
        told(0, "nods 0/1;", 1);
        told(0, "nods 1*0;", 1);
    }

    static void p11PartsByNumbersAlone() {
        refused(0, "nods 1/skill;", 1, 7);
        refused(0, "nods 1/(2);", 1, 7);
        refused(0, "nods 1/-2;", 1, 7);
        refused(0, "nods 1/;", 1, 7);
        told(0, "nods skill/2*grief;", 1);
    }

    static void p11APowerThatThereIsNot() {
        told(1, "power 1 thing 0 says 0;", 1);
        refused(1, "power 2 thing 0 says 0;", 2, 6);
        refused(1, "power 9999 thing 0 says 0;", 2, 6);
        told(2, "on 0 send 0 1;", 1);
        refused(2, "on 0 send 0 2;", 2, 12);
        told(2, "on 0 gift 1 1;", 1);
        refused(2, "on 0 gift 2 1;", 2, 10);
        told(3, "power 1 wants 0;", 1);
        refused(3, "power 2 wants 0;", 2, 6);
        Twins.Maker none = () -> {
            BasketEnvoys x = new BasketEnvoys();
            x.mute(1, 1, true);
            return x;
        };
        Twins.faulty(none, 1, "power 0", 2, 6);
        Twins.faulty(none, 2, "on 0 send 0 0;", 2, 12);
        Twins.faulty(none, 2, "on 0 gift 0 1;", 2, 10);
        Twins.faulty(none, 3, "power 0", 2, 6);
    }

    static void p11AMuteThatThereIsNot() {
        told(2, "on 0 send 2 0;", 1);
        refused(2, "on 0 send 3 0;", 2, 10);
        told(2, "on 0 home 2;", 1);
        refused(2, "on 0 home 3;", 2, 10);
        told(2, "on 0 mourn 2 0;", 1);
        refused(2, "on 0 mourn 3 0;", 2, 11);
        Twins.Maker none = () -> {
            BasketEnvoys x = new BasketEnvoys();
            x.power(1);
            return x;
        };
        Twins.faulty(none, 2, "on 0 send 0 0;", 2, 10);
        Twins.faulty(none, 2, "on 0 home 0;", 2, 10);
        Twins.faulty(none, 2, "on 0 mourn 0 0;", 2, 11);
    }

    static void p11TenPowersAndFourteenMutes() {
        Twins.Maker all = () -> {
            BasketEnvoys x = new BasketEnvoys();
            for (int i = 0; i < 14; i++) {
                x.power(i);
                x.mute(1, 1, false);
            }
            return x;
        };
        BasketEnvoys x = all.make();
        due("power 9", Checks.tell(x, 1, "power 9 thing 0 says 1;"), 1);
        due("mute 13", Checks.tell(x, 2, "on 0 send 13 9;"), 1);
        due("wants of 9", Checks.tell(x, 3, "power 9 wants 4;"), 1);
        Twins.faulty(all, 1, "power 10 thing 0 says 1;", 2, 6);
        Twins.faulty(all, 2, "on 0 send 14 9;", 2, 10);
        Twins.faulty(all, 2, "on 0 send 13 10;", 2, 13);
        Twins.faulty(all, 3, "power 10 wants 4;", 2, 6);
    }

    static void p11AThingFrom0To11() {
        told(1, "power 0 thing 0 says 0;", 1);
        told(1, "power 0 thing 11 says 0;", 1);
        refused(1, "power 0 thing 12 says 0;", 2, 14);
        refused(1, "power 0 thing 9999 says 0;", 2, 14);
    }

    static void p11AMeaningFrom0To15() {
        told(1, "power 0 thing 0 says 15;", 1);
        refused(1, "power 0 thing 0 says 16;", 2, 21);
        told(3, "power 0 wants 0 15;", 1);
        refused(3, "power 0 wants 16;", 2, 14);
        refused(3, "power 0 wants 0 16;", 2, 16);
        refused(3, "power 0 wants 0 0 0 0 0 16;", 2, 24);
    }

    static void p11ADayFrom0To999() {
        told(2, "on 0 home 0;", 1);
        told(2, "on 999 home 0;", 1);
        told(2, "on 0999 home 0;", 1);
        refused(2, "on 1000 home 0;", 2, 3);
        refused(2, "on 9999 home 0;", 2, 3);
    }

    static void p11AGiftFrom1To99() {
        told(2, "on 0 gift 0 1;", 1);
        told(2, "on 0 gift 0 99;", 1);
        refused(2, "on 0 gift 0 0;", 2, 12);
        refused(2, "on 0 gift 0 100;", 2, 12);
    }

    static void p11MourningFrom0To9() {
        told(2, "on 0 mourn 0 0;", 1);
        told(2, "on 0 mourn 0 9;", 1);
        refused(2, "on 0 mourn 0 10;", 2, 13);
    }

    static void p11The17thLineAtItsKeyword() {
        String[] starts = {"nods", "power", "on", "power"};
        for (int k = 0; k < 4; k++) {
            refused(k, LINES[k].repeat(16) + " \n" + starts[k], 3, 16 * LINES[k].length() + 2);
            told(k, LINES[k].repeat(16) + " \n", 16);
        }
        for (String word : new String[] {"nods", "cries", "wins"}) {
            refused(0, LINES[0].repeat(16) + word, 3, 112);
        }
    }

    static void p11EightThatAreOpenAndNotNine() {
        for (int nots = 0; nots <= 9; nots++) {
            String text = "nods 1 when " + "not ".repeat(nots) + "(".repeat(8 - Math.min(8, nots)) + "1=1"
                + ")".repeat(8 - Math.min(8, nots)) + ";";
            if (nots <= 8) {
                told(0, text, 1);
            } else {
                refused(0, text, 3, 12 + 4 * 8);
            }
            refused(0, "nods 1 when " + "not ".repeat(Math.min(8, nots)) + "(".repeat(9 - Math.min(8, nots)) + "1=1", 3,
                12 + 4 * Math.min(8, nots) + 8 - Math.min(8, nots));
        }
        refused(0, "nods 1 when ((((((((not 1=1", 3, 20);
        refused(0, "nods 1 when ((((((((not", 3, 20);
        refused(0, "nods 1 when (((((((((", 3, 20);
        refused(0, "nods 1 when not(not(not(not(not 1=1))))", 3, 28);
        told(0, "nods 1 when not(not(not(not(1=1))));", 1);
    }

    static void p11ANotOrABracketThatIsShutIsNotOpen() {
        told(0, "nods 1 when ((((((((1=1)))))))) and ((((((((1=1)))))))) or not ((((((( 1=1)))))));", 1);
        told(0, "nods 1 when not 1=1" + " and not 1=1".repeat(20) + ";", 1);
        told(0, "nods 1 when (1=1)" + " or (1=1)".repeat(20) + ";", 1);
        told(0, "nods 1 when (((((((1=1 and not 1=1 and (1=1) and not 1=1)))))));", 1);
        refused(0, "nods 1 when ((((((((1=1)))))))) and (((((((((1=1", 3, 44);
        refused(0, "nods 1 when (((((((1=1 and not not 1=1", 3, 31);
    }

    static void p11ABracketThatCantStandIsNoOpenOne() {
        refused(0, "nods 1 when ((((((((1=1(", 1, 23);
        refused(0, "nods 1 when ((((((((1=(", 1, 22);
        refused(0, "nods (((((((((1;", 1, 5);
        refused(0, "nods 1 when 1=1 not", 1, 16);
        refused(0, "nods 1 when ((((((((1=1 not", 1, 24);
    }

    static void p11SixMeaningsAndNotSeven() {
        for (int count = 0; count <= 8; count++) {
            String text = "power 0 wants" + " 1".repeat(count) + ";";
            if (count == 0) {
                refused(3, text, 1, 13);
            } else if (count <= 6) {
                told(3, text, 1);
            } else {
                refused(3, text, 3, 26);
            }
        }
        refused(3, "power 0 wants 1 1 1 1 1 1 0;", 3, 26);
        refused(3, "power 0 wants 1 1 1 1 1 1 15;", 3, 26);
        told(3, "power 0 wants 1 1 1 1 1 1;power 0 wants 1 1 1 1 1 1;", 2);
        refused(3, "power 0 wants 1;power 0 wants 1 1 1 1 1 1 1;", 3, 42);
    }

    static void p11WhatCantStandThere() {
        String[][] texts = {
            {"nods 1 1;", "nods -1;", "nods 1+;", "nods 1*;", "nods +1;", "nods 1--1;", "nods 1;;", ";", "7", "(", "nods 1,2;"},
            {"power power", "power 0 0", "power 0 thing thing", "power 0 thing 0 0", "power 0 thing 0 says says",
                "power 0 thing 0 says 0 0", "power 0 says 0", "thing 0", "says 0", "power 0;", "power 0 thing 0;"},
            {"on on", "on 0 0", "on 0 on", "on 0;", "on 0 send;", "on 0 send 0;", "on 0 home 0 0;", "on 0 gift 0;", "on 0 mourn 0;",
                "home 0;", "on 0 send send"},
            {"power power", "power 0 0", "power 0 power", "power 0 wants wants", "power 0 wants;", "power 0 wants 1 wants",
                "wants 1", "power 0;", "power 0 wants 1 power 0 wants 1;", "power 0 wants 1-2;", "power;"},
        };
        int[][] places = {
            {7, 5, 7, 7, 5, 7, 7, 0, 0, 0, 6},
            {6, 8, 14, 16, 21, 23, 8, 0, 0, 7, 15},
            {3, 5, 5, 4, 9, 11, 12, 11, 12, 0, 10},
            {6, 8, 8, 14, 13, 16, 0, 7, 16, 15, 5},
        };
        for (int k = 0; k < 4; k++) {
            for (int i = 0; i < texts[k].length; i++) {
                refused(k, texts[k][i], 1, places[k][i]);
            }
        }
    }
}
