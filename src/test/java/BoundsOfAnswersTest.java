/** Promises 12 and 13, sentence by sentence: what is told of a mute and of a power, and how THE LAW is held. */
public final class BoundsOfAnswersTest {
    private static final int LEAST = Integer.MIN_VALUE;
    private static final int MOST = Integer.MAX_VALUE;

    public static void main(String[] args) {
        Sentences.run(BoundsOfAnswersTest.class, 12, 13);
    }

    private static void due(String what, long got, long want) {
        Sentences.due(what, got, want);
    }

    /** A mute (skill 5, grief 4, false) who is at power 1 (trust 40) of two and has these things. */
    private static BasketEnvoys sent(String law, int... things) {
        BasketEnvoys x = new BasketEnvoys();
        x.power(7);
        x.power(40);
        x.mute(5, 4, true);
        for (int thing : things) {
            x.act(2, 0, thing);
        }
        Checks.tell(x, 0, law);
        x.act(0, 0, 1);
        return x;
    }

    private static int cries(String sum) {
        return sent("cries " + sum + ";", 3).of(0, 7);
    }

    private static int nods(String sum) {
        return sent("nods " + sum + ";", 3).of(0, 8);
    }

    private static int wins(String sum) {
        return sent("wins " + sum + ";", 3).of(0, 9);
    }

    // ---- 12: of

    static void p12AMuteThatThereIsNot() {
        for (int mute : new int[] {-1, LEAST, 3, 14, MOST}) {
            for (int what : new int[] {0, 7, 8, 10, 17, 18, -1}) {
                Twins.changesNothing("of " + mute + " " + what, -2, x -> x.of(mute, what));
            }
        }
        BasketEnvoys x = Twins.full();
        due("the last one", x.of(2, 0), 0);
        due("the one behind it", x.of(3, 0), -2);
    }

    static void p12AnotherWhat() {
        for (int what : new int[] {-1, LEAST, 18, 19, 100, MOST}) {
            Twins.changesNothing("what " + what, -2, x -> x.of(0, what));
        }
        due("17 is one", sent("").of(0, 17), -1);
    }

    static void p12AskingChangesNothing() {
        for (int what = 0; what <= 17; what++) {
            int w = what;
            Twins.changesNothing("what " + what, Twins.full().of(0, what), x -> x.of(0, w));
        }
    }

    static void p12ThingsFrom0To7() {
        BasketEnvoys x = sent("", 11, 10, 9, 8, 7, 6, 5, 0);
        int[] things = {11, 10, 9, 8, 7, 6, 5, 0};
        due("how many", x.of(0, 5), 8);
        for (int i = 0; i < 8; i++) {
            due("thing " + i, x.of(0, 10 + i), things[i]);
        }
        due("no ninth", x.of(0, 18), -2);
    }

    static void p12AThingThatThereIsNotIsNone() {
        for (int count = 0; count < 8; count++) {
            BasketEnvoys x = new BasketEnvoys();
            x.mute(1, 1, false);
            for (int i = 0; i < count; i++) {
                x.act(2, 0, 0);
            }
            for (int i = 0; i < 8; i++) {
                due(count + ", thing " + i, x.of(0, 10 + i), i < count ? 0 : -1);
            }
        }
    }

    static void p12AtHomeNodsAndWinsAreNone() {
        BasketEnvoys x = sent("nods 5;wins 6;", 3);
        due("away, nods", x.of(0, 8), 5);
        due("away, wins", x.of(0, 9), 6);
        x.act(1, 0, 0);
        due("home, nods", x.of(0, 8), -1);
        due("home, wins", x.of(0, 9), -1);
    }

    static void p12NoneToShowNodsAndWinsAreNone() {
        BasketEnvoys empty = sent("nods 0;wins 6;cries 0;");
        due("empty, nods", empty.of(0, 8), -1);
        due("empty, wins", empty.of(0, 9), -1);
        BasketEnvoys x = sent("nods 0;wins 6;cries 0;", 3, 4);
        x.days(1);
        due("one left, nods", x.of(0, 8), 0);
        due("one left, wins", x.of(0, 9), 6);
        x.days(1);
        due("none left, nods", x.of(0, 8), -1);
        due("none left, wins", x.of(0, 9), -1);
        due("still away", x.of(0, 3), 1);
    }

    static void p12NodsOfTheNextThing() {
        BasketEnvoys x = sent("nods thing;wins 10*says;cries 0;", 7, 2, 9);
        int[] things = {7, 2, 9};
        for (int thing : things) {
            due("nods", x.of(0, 8), thing);
            due("wins", x.of(0, 9), Math.min(99, 10 * thing));
            x.days(1);
        }
    }

    static void p12CriesIsToldAtHomeToo() {
        BasketEnvoys x = sent("cries 10*trust+step+ports+100*shown;", 3);
        due("away", x.of(0, 7), 410);
        x.act(1, 0, 0);
        due("at home trust is 0", x.of(0, 7), 10);
    }

    static void p12TrustAndStepOfThePowerWhereHeIsAtHome0() {
        BasketEnvoys x = sent("cries 100*step+trust;nods 1000;", 3, 3);
        Checks.tell(x, 3, "power 1 wants 3 3;power 0 wants 1 2;");
        due("at first", x.of(0, 7), 40);
        x.state(1);
        Checks.tell(x, 0, "nods 1000;cries 0;");
        x.days(1);
        Checks.tell(x, 0, "cries 100*step+trust;");
        due("one read", x.of(0, 7), 141);
        x.act(1, 0, 0);
        due("at home", x.of(0, 7), 0);
        x.act(0, 0, 0);
        due("at the other one", x.of(0, 7), 7);
    }

    static void p12ThingAndSaysAre0ForCries() {
        due("cries", sent("cries 5+thing*10+says*100;", 11).of(0, 7), 5);
        due("nods", sent("nods 5+thing*10+says*20;", 11).of(0, 8), 335);
        due("wins", sent("wins 5+thing+says*2;", 11).of(0, 9), 38);
    }

    static void p12SaysIsWhatTheThingSaysToThatPower() {
        BasketEnvoys x = sent("nods 10*says+thing;", 3);
        Checks.tell(x, 1, "power 0 thing 3 says 15;");
        due("its own", x.of(0, 8), 33);
        Checks.tell(x, 1, "power 1 thing 3 says 15;");
        due("told", x.of(0, 8), 153);
    }

    static void p12ShownIsWithoutTheThingThatHeShows() {
        BasketEnvoys x = sent("nods shown;wins shown;cries 0;", 3, 4, 5);
        for (int shown = 0; shown < 3; shown++) {
            due("nods", x.of(0, 8), shown);
            due("wins", x.of(0, 9), shown);
            x.days(1);
        }
    }

    static void p12HisOwnSkillGriefFalseShownPortsDay() {
        due("skill", cries("skill"), 5);
        due("grief", cries("grief"), 4);
        due("false", cries("false"), 1);
        due("shown", cries("shown"), 0);
        due("ports", cries("ports"), 10);
        due("day", cries("day"), 0);
        BasketEnvoys x = sent("cries 0;", 3, 4, 5);
        x.set(3, 0, 0);
        x.days(2);
        x.set(4, 0, 99);
        x.act(1, 0, 0);
        Checks.tell(x, 0, "cries 100*shown+false+10*day+ports*5;");
        due("all", x.of(0, 7), 200 + 20 + 495);
    }

    static void p12NodsHeldTo0To1000() {
        int[] dues = {0, 0, 1, 999, 1000, 1000, 1000};
        String[] sums = {"0-1", "0", "1", "999", "1000", "1001", "9999"};
        for (int i = 0; i < sums.length; i++) {
            due("nods " + sums[i], nods(sums[i]), dues[i]);
        }
    }

    static void p12CriesHeldTo0To1000() {
        int[] dues = {0, 0, 1, 999, 1000, 1000, 1000};
        String[] sums = {"0-1", "0", "1", "999", "1000", "1001", "9999"};
        for (int i = 0; i < sums.length; i++) {
            due("cries " + sums[i], cries(sums[i]), dues[i]);
        }
    }

    static void p12WinsHeldTo0To99() {
        int[] dues = {0, 0, 1, 98, 99, 99, 99};
        String[] sums = {"0-1", "0", "1", "98", "99", "100", "9999"};
        for (int i = 0; i < sums.length; i++) {
            due("wins " + sums[i], wins(sums[i]), dues[i]);
        }
    }

    static void p12WithoutALineNodsIs60TimesSkillAnd5TimesTrust() {
        for (int[] v : new int[][] {{0, 0, 0}, {1, 0, 60}, {0, 1, 5}, {9, 92, 1000}, {9, 91, 995}, {9, 99, 1000}, {5, 40, 500}}) {
            BasketEnvoys x = sent("", 3);
            x.set(1, 0, v[0]);
            x.set(0, 1, v[1]);
            due("skill " + v[0] + " trust " + v[1], x.of(0, 8), v[2]);
        }
    }

    static void p12WithoutALineCriesIs50TimesGriefOfOneWhoIsFalse() {
        for (int grief = 0; grief <= 9; grief++) {
            BasketEnvoys x = sent("", 3);
            x.set(2, 0, grief);
            due("false, grief " + grief, x.of(0, 7), 50 * grief);
            x.set(3, 0, 0);
            due("not false, grief " + grief, x.of(0, 7), 0);
        }
    }

    static void p12WithoutALineWinsIs1() {
        due("wins", sent("", 3).of(0, 9), 1);
        due("with lines for others", sent("nods 5;cries 6;", 3).of(0, 9), 1);
    }

    static void p12ALineWhoseBIsNotSoIsNone() {
        BasketEnvoys x = sent("nods 7 when 1=2;cries 7 when 1=2;wins 7 when 1=2;", 3);
        due("nods", x.of(0, 8), 500);
        due("cries", x.of(0, 7), 200);
        due("wins", x.of(0, 9), 1);
    }

    static void p12TheFirstLineWithThatWordWhoseBIsSo() {
        String law = "nods 1 when skill=1;cries 9;nods 2 when skill=2;nods 3 when skill<4;nods 4;nods 5 when skill=5;";
        int[] dues = {3, 1, 2, 3, 4, 4};
        for (int skill = 0; skill < 6; skill++) {
            BasketEnvoys x = sent(law, 3);
            x.set(1, 0, skill);
            due("skill " + skill, x.of(0, 8), dues[skill]);
        }
    }

    static void p12TheSixteenthLineIsALineToo() {
        BasketEnvoys x = sent("nods 1 when 1=2;".repeat(15) + "nods 16;", 3);
        due("nods", x.of(0, 8), 16);
        BasketEnvoys y = sent("nods 1 when 1=2 or 1=3;".repeat(15) + "nods 2+3*4 when 1=1 and 1=1;", 3);
        due("nods by a sum", y.of(0, 8), 14);
    }

    static void p12ComparedOnBothSides() {
        String[] signs = {"<", "=", ">"};
        int[][] dues = {{1, 0, 0}, {0, 1, 0}, {0, 0, 1}};
        for (int i = 0; i < 3; i++) {
            for (int v = 39; v <= 41; v++) {
                due(v + signs[i] + "trust", cries("1 when " + v + signs[i] + "trust;cries 0"), dues[i][v - 39]);
            }
        }
    }

    static void p12DivisionGoesTowards0() {
        due("7/2", cries("7/2"), 3);
        due("1/2", cries("1/2"), 0);
        due("8/2", cries("8/2"), 4);
        due("7/1", cries("7/1"), 7);
        due("0/7", cries("0/7"), 0);
        due("7/9999", cries("7/9999"), 0);
        // a product that wraps is below 0: 9999 * 9999 * 22 = 2199560022 - 2^32
        int below = 9999 * 9999 * 22;
        due("it is below 0", Twins.yes(below < 0), 1);
        for (int by : new int[] {22, 9998, 9999}) {
            int quotient = below / by;
            due("towards 0 by " + by, cries("1 when 9999*9999*22/" + by + "=0-" + -quotient / 9999 + "*9999-" + -quotient % 9999
                + ";cries 0"), 1);
        }
        due("not down", Twins.yes(Math.floorDiv(below, 22) != below / 22), 1);
    }

    static void p12SumsWrap() {
        // 9999 * 9999 * 21 + 9999 * 9999 / 2 goes beyond 2^31 - 1
        int sum = 9999 * 9999 * 21 + 9999 * 9999 / 2;
        due("it wraps", Twins.yes(sum < 0), 1);
        due("held to 0", cries("9999*9999*21+9999*9999/2"), 0);
        due("below 0", cries("1 when 9999*9999*21+9999*9999/2<0;cries 0"), 1);
        due("a difference", cries("1 when 0-9999*9999*21-9999*9999/2>0;cries 0"), 1);
        due("a product", cries("1 when 9999*9999*22<0;cries 0"), 1);
        due("one that does not", cries("1 when 9999*9999*21<0;cries 0"), 0);
    }

    static void p12ProductsBeforeSumsFromTheLeft() {
        due("2+3*4", cries("2+3*4"), 14);
        due("2*3+4", cries("2*3+4"), 10);
        due("20-3-4", cries("20-3-4"), 13);
        due("20-3+4", cries("20-3+4"), 21);
        due("100/7*7", cries("100/7*7"), 98);
        due("100*7/7", cries("100*7/7"), 100);
        due("100/7/7", cries("100/7/7"), 2);
    }

    static void p12AndBeforeOrNotBeforeBoth() {
        String[] conditions = {
            "1=1 or 1=1 and 1=2", "(1=1 or 1=1) and 1=2", "1=2 and 1=1 or 1=1", "1=2 and (1=1 or 1=1)",
            "not 1=1 or 1=1", "not (1=1 or 1=1)", "not 1=2 and 1=2", "not (1=2 and 1=2)", "not not 1=2", "not not 1=1",
            "1=1 or 1=2 or 1=2", "1=2 or 1=1 or 1=2", "1=2 or 1=2 or 1=1", "1=2 or 1=2 or 1=2", "1=1 and 1=1 and 1=2",
            "1=2 and 1=1 and 1=1", "1=1 and 1=2 and 1=1", "1=1 and 1=1 and 1=1",
            "1<2 and 1=1", "1=1 and 1<2", "2>1 and 1=1", "1<2 and 2>1", "not 1<2", "not 2>1", "not 2<1", "not 1>2",
        };
        String truths = "101010010111100001111100" + "11";
        for (int i = 0; i < conditions.length; i++) {
            due(conditions[i], cries("1 when " + conditions[i] + ";cries 0"), truths.charAt(i) - '0');
        }
    }

    static void p12KnownIs0Or1() {
        BasketEnvoys x = sent("cries 1000;", 3);
        due("not yet", x.of(0, 4), 0);
        x.days(1);
        due("known", x.of(0, 4), 1);
    }

    static void p12AtIsThePowerOrNone() {
        BasketEnvoys x = sent("", 3);
        due("away", x.of(0, 3), 1);
        x.act(1, 0, 0);
        due("home", x.of(0, 3), -1);
        x.act(0, 0, 0);
        due("at the first", x.of(0, 3), 0);
    }

    // ---- 13: powerOf

    static void p13APowerThatThereIsNot() {
        for (int power : new int[] {-1, LEAST, 3, 10, MOST}) {
            for (int what : new int[] {0, 4, 5, 10, 15, 100, 111, 112, -1}) {
                Twins.changesNothing("powerOf " + power + " " + what, -2, x -> x.powerOf(power, what));
            }
        }
        BasketEnvoys x = Twins.full();
        due("the last one", x.powerOf(2, 0), 99);
        due("the one behind it", x.powerOf(3, 0), -2);
    }

    static void p13AnotherWhat() {
        for (int what : new int[] {-1, LEAST, 6, 7, 8, 9, 16, 17, 50, 99, 112, 113, 1000, MOST}) {
            Twins.changesNothing("what " + what, -2, x -> x.powerOf(0, what));
        }
    }

    static void p13AskingChangesNothing() {
        for (int what : new int[] {0, 1, 2, 3, 4, 5, 10, 15, 100, 111}) {
            Twins.changesNothing("what " + what, Twins.full().powerOf(0, what), x -> x.powerOf(0, what));
        }
    }

    static void p13MeaningsFrom0To5() {
        int[] wants = {15, 0, 3, 3, 1, 7};
        for (int count = 1; count <= 6; count++) {
            BasketEnvoys x = sent("");
            StringBuilder text = new StringBuilder("power 1 wants");
            for (int i = 0; i < count; i++) {
                text.append(' ').append(wants[i]);
            }
            Checks.tell(x, 3, text.append(';').toString());
            due("how many", x.powerOf(1, 4), count);
            for (int i = 0; i < 6; i++) {
                due(count + ", meaning " + i, x.powerOf(1, 10 + i), i < count ? wants[i] : -1);
            }
            due("no seventh", x.powerOf(1, 16), -2);
        }
    }

    static void p13SixMeaningsOfEachOfSixteenLines() {
        BasketEnvoys x = new BasketEnvoys();
        for (int i = 0; i < 10; i++) {
            x.power(i);
        }
        StringBuilder text = new StringBuilder();
        for (int i = 0; i < 16; i++) {
            text.append("power").append(i % 10).append("wants1 2 3 4 5 ").append(i % 10).append(';');
        }
        due("told", Checks.tell(x, 3, text.toString()), 16);
        for (int i = 0; i < 10; i++) {
            due("how many", x.powerOf(i, 4), 6);
            due("the first", x.powerOf(i, 10), 1);
            due("the sixth", x.powerOf(i, 15), i);
        }
    }

    static void p13OneThatWantsNothing() {
        BasketEnvoys x = sent("");
        Checks.tell(x, 3, "power 1 wants 2;");
        due("how many", x.powerOf(0, 4), 0);
        for (int i = 0; i < 6; i++) {
            due("meaning " + i, x.powerOf(0, 10 + i), -1);
        }
    }

    static void p13OfSeveralLinesTheLast() {
        BasketEnvoys x = sent("");
        Checks.tell(x, 3, "power 1 wants 1 2 3;power 0 wants 9;power 1 wants 4 5;");
        due("how many", x.powerOf(1, 4), 2);
        due("first", x.powerOf(1, 10), 4);
        due("second", x.powerOf(1, 11), 5);
        due("no third", x.powerOf(1, 12), -1);
        due("another one's", x.powerOf(0, 10), 9);
    }

    static void p13ThingsFrom0To11SayTheirOwnNumber() {
        BasketEnvoys x = sent("");
        for (int thing = 0; thing < 12; thing++) {
            due("thing " + thing, x.powerOf(0, 100 + thing), thing);
            due("thing " + thing, x.powerOf(1, 100 + thing), thing);
        }
        due("no thing below", x.powerOf(0, 99), -2);
        due("no thing above", x.powerOf(0, 112), -2);
    }

    static void p13ThingsSayMeaningsFrom0To15() {
        BasketEnvoys x = sent("");
        Checks.tell(x, 1, "power 1 thing 0 says 15;power 1 thing 11 says 0;power 0 thing 11 says 15;");
        due("thing 0", x.powerOf(1, 100), 15);
        due("thing 11", x.powerOf(1, 111), 0);
        due("to the other one", x.powerOf(0, 111), 15);
        due("not told", x.powerOf(0, 100), 0);
    }

    static void p13OfSeveralMeaningsForOneTheLast() {
        BasketEnvoys x = sent("");
        Checks.tell(x, 1, "power 1 thing 3 says 9;power 1 thing 3 says 8;power 0 thing 3 says 7;power 1 thing 3 says 6;");
        due("thing 3", x.powerOf(1, 103), 6);
        due("to the other one", x.powerOf(0, 103), 7);
    }

    static void p13ToldAnewAThingSaysItsOwnNumberAgain() {
        BasketEnvoys x = sent("");
        Checks.tell(x, 1, "power 1 thing 3 says 9;");
        Checks.tell(x, 1, "power 1 thing 4 says 9;");
        due("thing 3", x.powerOf(1, 103), 3);
        due("thing 4", x.powerOf(1, 104), 9);
        Checks.tell(x, 1, "");
        due("thing 4", x.powerOf(1, 104), 4);
    }

    static void p13APowerThatComesLaterReadsThingsAsTheyAre() {
        BasketEnvoys x = sent("");
        Checks.tell(x, 1, "power 1 thing 3 says 9;");
        Checks.tell(x, 3, "power 1 wants 3;");
        due("comes", x.power(1), 2);
        due("says", x.powerOf(2, 103), 3);
        due("wants", x.powerOf(2, 4), 0);
    }

    static void p13TheSetOfThoseWhoAreAtIt() {
        BasketEnvoys x = sent("");
        due("one", x.powerOf(1, 5), 1);
        due("none", x.powerOf(0, 5), 0);
        x.mute(1, 1, false);
        x.mute(1, 1, false);
        x.act(0, 2, 1);
        due("two", x.powerOf(1, 5), 5);
        x.act(1, 0, 0);
        due("one left", x.powerOf(1, 5), 4);
        x.act(0, 0, 0);
        due("at the other one", x.powerOf(0, 5), 1);
    }

    static void p13StepStaysWhereANodIsNotGiven() {
        BasketEnvoys x = sent("nods 1000 when shown=0;nods 0;cries 0;", 3, 4);
        Checks.tell(x, 3, "power 1 wants 3 4;");
        x.days(1);
        due("one read", x.powerOf(1, 1), 1);
        x.days(1);
        due("no nod", x.powerOf(1, 1), 1);
    }
}
