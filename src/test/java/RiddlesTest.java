/** Promises 17 to 43: what is told for thought and asked in thought, with its bounds. */
public final class RiddlesTest {
    private static final Checks CHECKS = new Checks();

    private static void due(String what, long got, long want) {
        CHECKS.due(what, got, want);
    }

    private static void due(String what, boolean got, boolean want) {
        CHECKS.due(what, got, want);
    }

    public static void main(String[] args) {
        alike();
        lightest();
        heard();
        signs();
        pins();
        tables();
        stand();
        sent();
        carried();
        kept();
        hats();
        map();
        cloths();
        words();
        silence();
        CHECKS.finish();
    }

    private static BasketEnvoys threePowers() {
        BasketEnvoys x = new BasketEnvoys();
        x.power(1);
        x.power(2);
        x.power(3);
        Checks.tell(x, 1, "power 1 thing 2 says 9; power 2 thing 2 says 9; power 2 thing 3 says 9; power 0 thing 4 says 9;");
        return x;
    }

    private static void alike() {
        BasketEnvoys x = threePowers();
        due("P18 empty row", x.alike(1), 7);
        due("P17 below", x.shows(-2), -1);
        due("P17 above", x.shows(12), -1);
        due("P17 first", x.shows(2), 1);
        due("P18 says 2", x.alike(0), 1);
        due("P18 says 9", x.alike(1), 6);
        due("P18 says 9", x.alike(2), 6);
        due("P17 second", x.shows(3), 2);
        due("P18 itself", x.alike(1), 2);
        due("P18 none such", x.alike(3), -1);
        due("P18 none such", x.alike(-1), -1);
        for (int i = 3; i <= 8; i++) {
            due("P17 more", x.shows(11), i);
        }
        due("P17 ninth", x.shows(0), -1);
        due("P17 empty", x.shows(-1), 0);
        due("P18 empty again", x.alike(0), 7);
        due("P17 again", x.shows(0), 1);
        due("P18 all alike", x.alike(0), 7);
    }

    private static void lightest() {
        BasketEnvoys x = threePowers();
        due("P20 wants nothing", x.lightest(0, 0), 0);
        due("P20 wants nothing", x.lightest(0, 1), 1);
        due("P20 none such", x.lightest(3, 0), -1);
        due("P20 none such", x.lightest(-1, 1), -1);
        due("P20 other what", x.lightest(0, 2), -1);
        due("P20 other what", x.lightest(0, -1), -1);
        Checks.tell(x, 3, "power 0 wants 9 9 1; power 1 wants 2; power 2 wants 9 9 9 9 9 9;");
        due("P20 no weights", x.lightest(0, 0), 0);
        due("P20 rows", x.lightest(0, 1), 4);
        due("P20 nothing says 2", x.lightest(1, 0), -1);
        due("P20 no rows", x.lightest(1, 1), 0);
        due("P20 rows", x.lightest(2, 1), 729);
        due("P19 weighs", x.weighs(9, 30), true);
        due("P19 weighs", x.weighs(4, 40), true);
        due("P19 weighs", x.weighs(1, 99), true);
        due("P19 weighs", x.weighs(2, 31), true);
        due("P19 weighs", x.weighs(3, 29), true);
        due("P19 no thing", x.weighs(12, 1), false);
        due("P19 no thing", x.weighs(-1, 1), false);
        due("P19 no weight", x.weighs(0, -1), false);
        due("P19 no weight", x.weighs(0, 100), false);
        due("P20 least", x.lightest(0, 0), 159);
        due("P20 least", x.lightest(2, 0), 174);
        due("P19 anew", x.weighs(3, 99), true);
        due("P20 least", x.lightest(2, 0), 180);
    }

    private static void heard() {
        BasketEnvoys x = threePowers();
        due("P22 both empty", x.heard(0, 1), 1);
        due("P22 empty", x.heard(0, 0), 1);
        due("P21 below", x.hears(-3), -1);
        due("P21 above", x.hears(16), -1);
        due("P21 first", x.hears(9), 1);
        due("P22 rows", x.heard(0, 0), 2);
        due("P22 rows", x.heard(2, 0), 3);
        due("P22 not as many", x.heard(0, 1), 0);
        due("P21 not heard", x.hears(-2), 2);
        due("P22 rows", x.heard(2, 0), 36);
        x.shows(2);
        x.shows(5);
        due("P22 not so", x.heard(0, 1), 0);
        due("P22 so", x.heard(1, 1), 1);
        due("P22 so", x.heard(2, 1), 1);
        due("P21 third", x.hears(15), 3);
        due("P22 nothing says 15", x.heard(2, 0), 0);
        due("P22 not as many", x.heard(1, 1), 0);
        x.shows(11);
        due("P22 one is not", x.heard(1, 1), 0);
        due("P22 none such", x.heard(3, 0), -1);
        due("P22 other what", x.heard(0, 2), -1);
        due("P22 other what", x.heard(0, -1), -1);
        due("P21 empty", x.hears(-1), 0);
        due("P22 not as many", x.heard(1, 1), 0);
        for (int i = 1; i <= 8; i++) {
            due("P21 not heard", x.hears(-2), i);
        }
        due("P21 ninth", x.hears(1), -1);
        due("P22 all rows", x.heard(0, 0), 429981696);
    }

    private static void signs() {
        BasketEnvoys x = new BasketEnvoys();
        due("P24 none", x.signs(), 0);
        due("P23 below", x.count(0), -1);
        due("P23 below", x.count(-2), -1);
        due("P23 above", x.count(100), -1);
        due("P23 one", x.count(99), 1);
        due("P24 alone", x.signs(), 0);
        due("P23 two", x.count(1), 2);
        due("P24 two", x.signs(), 100);
        due("P23 three", x.count(1), 3);
        due("P24 three", x.signs(), 103);
        due("P23 empty", x.count(-1), 0);
        due("P24 none", x.signs(), 0);
        int[] counts = {1, 1, 2, 3, 5, 8, 13, 21};
        for (int i = 0; i < 8; i++) {
            due("P23 count", x.count(counts[7 - i]), i + 1);
        }
        due("P23 ninth", x.count(5), -1);
        due("P24 a long tree", x.signs(), 2 + 4 + 7 + 12 + 20 + 33 + 54);
        x.count(-1);
        for (int i = 0; i < 8; i++) {
            x.count(7);
        }
        due("P24 an even tree", x.signs(), 8 * 7 * 3);
    }

    private static void pins() {
        BasketEnvoys x = new BasketEnvoys();
        int[] none = {0, 1, 2, 2, 3, 3, 3, 3, 4, 4, 4, 4, 4, 4, 4, 4, 5, 5, 5, 5};
        int[] one = {0, 3, 5, 5, 6, 6, 6, 6, 7, 7, 7, 7, 7, 7, 7, 7, 8, 8, 8, 8};
        Model slow = new Model();
        for (int n = 1; n <= 20; n++) {
            due("P25 none wrong " + n, x.pins(n, 0), none[n - 1]);
            due("P25 one wrong " + n, x.pins(n, 1), one[n - 1]);
            due("P25 all ways " + n, slow.pins(n, 1), one[n - 1]);
        }
        due("P25 below", x.pins(0, 0), -1);
        due("P25 above", x.pins(21, 0), -1);
        due("P25 wrong ones", x.pins(5, 2), -1);
        due("P25 wrong ones", x.pins(5, -1), -1);
    }

    private static void tables() {
        BasketEnvoys x = new BasketEnvoys();
        due("P26 which", x.table(2, 0, 0), false);
        due("P26 which", x.table(-1, 0, 0), false);
        due("P26 cell", x.table(0, 9, 0), false);
        due("P26 cell", x.table(1, -1, 0), false);
        due("P26 value", x.table(0, 0, 10), false);
        due("P26 value", x.table(1, 0, -10), false);
        due("P27 other what", x.tables(3), -100);
        due("P27 other what", x.tables(-1), -100);
        // the prisoners: the first keeps silent (0) or tells (1); 2 is worst for both
        int[] first = {3, 0, -9, 5, 1, -9, -9, -9, -9};
        int[] second = {3, 5, -9, 0, 1, -9, -9, -9, -9};
        for (int i = 0; i < 9; i++) {
            due("P26 first", x.table(0, i, first[i]), true);
            due("P26 second", x.table(1, i, second[i]), true);
        }
        // (2, 2) rests, too: -9 is all that either could get there
        due("P27 rests", x.tables(0), 2);
        due("P27 the first", x.tables(1), 4);
        due("P27 leads", x.tables(2), 1);
        x.table(0, 5, -8);
        due("P27 the first leaves it", x.tables(0), 1);
        // stone, scissors, paper: no cell rests, whatever row is told loses
        int[] wins = {0, 1, -1, -1, 0, 1, 1, -1, 0};
        for (int i = 0; i < 9; i++) {
            x.table(0, i, wins[i]);
            x.table(1, i, -wins[i]);
        }
        due("P27 none rests", x.tables(0), 0);
        due("P27 none", x.tables(1), -1);
        due("P27 leads", x.tables(2), -1);
        // of several columns best for the second, the one worst for the first
        int[] a = {9, 2, 9, 5, 5, 1, 9, 9, -9};
        int[] b = {4, 4, 3, 1, 1, 0, -9, -9, 9};
        for (int i = 0; i < 9; i++) {
            x.table(0, i, a[i]);
            x.table(1, i, b[i]);
        }
        due("P27 leads", x.tables(2), 5);
        due("P27 rests", x.tables(0), 1);
        due("P27 the first", x.tables(1), 0);
        for (int i = 0; i < 9; i++) {
            x.table(0, i, -9);
        }
        due("P27 leads at least", x.tables(2), -9);
        due("P27 rests in each row", x.tables(0), 5);
    }

    private static void stand() {
        BasketEnvoys x = new BasketEnvoys();
        // (n, k): for n 3 all six orders by hand: k 1 wins in 3 of 6
        due("P28 above", x.stand(3, 1, 0), 1);
        due("P28 below", x.stand(3, 1, 1), 2);
        due("P28 the first one", x.stand(3, 0, 1), 3);
        due("P28 the last one", x.stand(3, 2, 0), 1);
        due("P28 the last one", x.stand(3, 2, 1), 3);
        int[] best = {0, 0, 1, 1, 2, 2, 2, 3, 3, 3, 4, 4};
        Model slow = new Model();
        for (int n = 1; n <= 12; n++) {
            due("P28 least k of " + n, x.stand(n, -7, 2), best[n - 1]);
            for (int k = 0; k < n; k++) {
                due("P28 above " + n + " " + k, x.stand(n, k, 0), slow.stand(n, k, 0));
                due("P28 below " + n + " " + k, x.stand(n, k, 1), slow.stand(n, k, 1));
            }
            due("P28 k above", x.stand(n, n, 0), -1);
            due("P28 k below", x.stand(n, -1, 1), -1);
        }
        for (int n = 1; n <= 7; n++) {
            for (int k = 0; k < n; k++) {
                int[] all = {0, 0};
                orders(new int[n], 0, k, all);
                due("P28 all orders " + n + " " + k, (long) x.stand(n, k, 0) * all[1], (long) x.stand(n, k, 1) * all[0]);
            }
        }
        due("P28 n", x.stand(0, 0, 0), -1);
        due("P28 n", x.stand(13, 0, 0), -1);
        due("P28 n", x.stand(13, 0, 2), -1);
        due("P28 other what", x.stand(5, 0, 3), -1);
        due("P28 other what", x.stand(5, 0, -1), -1);
    }

    /** All orders of the offers 1 .. n: in how many the one nodded to is the best; how many there are. */
    private static void orders(int[] order, int i, int k, int[] all) {
        if (i == order.length) {
            int seen = 0;
            int chosen = 0;
            for (int j = 0; j < order.length && chosen == 0; j++) {
                if (j < k) {
                    seen = Math.max(seen, order[j]);
                } else if (order[j] > seen) {
                    chosen = order[j];
                }
            }
            all[0] += chosen == order.length ? 1 : 0;
            all[1]++;
            return;
        }
        for (int offer = 1; offer <= order.length; offer++) {
            boolean came = false;
            for (int j = 0; j < i; j++) {
                came |= order[j] == offer;
            }
            if (!came) {
                order[i] = offer;
                orders(order, i + 1, k, all);
            }
        }
    }

    private static void sent() {
        BasketEnvoys x = new BasketEnvoys();
        due("P30 one", x.sent(1, 1), 0);
        due("P30 the least of several", x.sent(6, 1), 12345);
        due("P30 nothing", x.sent(6, 0), 0);
        due("P29 a", x.worth(6, 0, 1), false);
        due("P29 a", x.worth(-1, 0, 1), false);
        due("P29 b", x.worth(0, 6, 1), false);
        due("P29 b", x.worth(0, -1, 1), false);
        due("P29 value", x.worth(0, 0, 100), false);
        due("P29 value", x.worth(0, 0, -1), false);
        int[][] worths = {{7, 5, 1}, {9, 1, 1}, {9, 9, 1}};
        for (int a = 0; a < 3; a++) {
            for (int b = 0; b < 3; b++) {
                due("P29 worth", x.worth(a, b, worths[a][b]), true);
            }
        }
        due("P30 most of 2", x.sent(2, 0), 14);
        due("P30 how of 2", x.sent(2, 1), 10);
        due("P30 most of 3", x.sent(3, 0), 19);
        due("P30 how of 3", x.sent(3, 1), 201);
        x.worth(5, 0, 99);
        due("P30 of the first alone", x.sent(3, 0), 19);
        due("P30 how of 6", x.sent(6, 1) % 10, 0);
        due("P29 most", x.worth(0, 5, 99), true);
        due("P30 far ones", x.sent(6, 0), 99 + 99 + 9 + 1);
        due("P30 n", x.sent(0, 0), -1);
        due("P30 n", x.sent(7, 0), -1);
        due("P30 other what", x.sent(3, 2), -1);
        due("P30 other what", x.sent(3, -1), -1);
    }

    private static void carried() {
        BasketEnvoys x = new BasketEnvoys();
        due("P32 none told", x.carried(200, 0), 0);
        due("P32 none told", x.carried(200, 1), 0);
        due("P31 first", x.load(5, 10), 1);
        due("P31 weight", x.load(0, 10), -1);
        due("P31 weight", x.load(31, 10), -1);
        due("P31 weight", x.load(-2, 10), -1);
        due("P31 worth", x.load(5, -1), -1);
        due("P31 worth", x.load(0, -1), -1);
        due("P31 worth", x.load(5, 100), -1);
        due("P31 second", x.load(6, 11), 2);
        due("P31 third", x.load(5, 1), 3);
        due("P31 worthless", x.load(1, 0), 4);
        due("P32 too little", x.carried(4, 0), 0);
        due("P32 too little", x.carried(4, 1), 0);
        due("P32 one", x.carried(5, 1), 1);
        due("P32 the better one", x.carried(6, 1), 2);
        due("P32 still one", x.carried(9, 0), 11);
        due("P32 two light ones", x.carried(10, 0), 11);
        due("P32 the least of several", x.carried(10, 1), 2);
        due("P32 both", x.carried(11, 0), 21);
        due("P32 both", x.carried(11, 1), 3);
        due("P32 all, without the worthless", x.carried(200, 1), 7);
        due("P32 w", x.carried(-1, 0), -1);
        due("P32 w", x.carried(201, 0), -1);
        due("P32 nothing", x.carried(0, 0), 0);
        due("P32 other what", x.carried(5, 2), -1);
        due("P32 other what", x.carried(5, -1), -1);
        due("P31 empty, worth not asked", x.load(-1, -1), 0);
        due("P32 none told", x.carried(200, 0), 0);
        for (int i = 1; i <= 10; i++) {
            due("P31 load", x.load(i == 10 ? 30 : 20, i == 10 ? 99 : i), i);
        }
        due("P31 eleventh", x.load(1, 1), -1);
        due("P32 most", x.carried(200, 0), 99 + 9 + 8 + 7 + 6 + 5 + 4 + 3 + 2);
        due("P32 which", x.carried(200, 1), 1022);
        due("P32 one alone", x.carried(49, 1), 512);
        due("P32 two", x.carried(50, 1), 768);
    }

    private static void kept() {
        BasketEnvoys x = new BasketEnvoys();
        due("P33 alike", x.promise(3, 3, 0), -1);
        due("P33 a", x.promise(8, 3, 0), -1);
        due("P33 a", x.promise(-2, 3, 0), -1);
        due("P33 b", x.promise(3, 8, 0), -1);
        due("P33 b", x.promise(7, -1, 0), -1);
        due("P33 how", x.promise(0, 1, 4), -1);
        due("P33 how", x.promise(0, 1, -1), -1);
        due("P34 all ways", x.kept(0), 256);
        due("P33 a or b", x.promise(2, 5, 3), 1);
        due("P34 ways", x.kept(0), 192);
        due("P34 least", x.kept(1), 4);
        due("P34 sure", x.kept(2), 0);
        due("P33 not a or b", x.promise(2, 5, 2), 2);
        due("P34 ways", x.kept(0), 128);
        due("P34 least", x.kept(1), 32);
        due("P34 sure", x.kept(2), 32);
        due("P33 not a or not b", x.promise(5, 2, 0), 3);
        due("P34 ways", x.kept(0), 64);
        due("P34 least", x.kept(1), 32);
        due("P33 a or not b", x.promise(2, 5, 1), 4);
        due("P34 none", x.kept(0), 0);
        due("P34 none", x.kept(1), -1);
        due("P34 none", x.kept(2), 0);
        due("P34 other what", x.kept(3), -1);
        due("P34 other what", x.kept(-1), -1);
        due("P33 empty", x.promise(-1, 99, 99), 0);
        due("P34 all ways", x.kept(0), 256);
        for (int i = 1; i <= 12; i++) {
            due("P33 more", x.promise(7, 0, 3), i);
        }
        due("P33 thirteenth", x.promise(7, 0, 3), -1);
        due("P34 the highest", x.kept(1), 1);
        // a ring of eight: if one is kept, so is the next: all or none
        x.promise(-1, 0, 0);
        for (int i = 0; i < 8; i++) {
            x.promise(i, (i + 1) % 8, 2);
        }
        due("P34 all or none", x.kept(0), 2);
        due("P34 none is the least", x.kept(1), 0);
        due("P34 none is sure", x.kept(2), 0);
        x.promise(3, 0, 3);
        due("P34 all", x.kept(1), 255);
        due("P34 all are sure", x.kept(2), 255);
    }

    private static void hats() {
        BasketEnvoys x = new BasketEnvoys();
        due("P36 none", x.hats(8), 0);
        due("P35 widow", x.hat(8, 1), false);
        due("P35 widow", x.hat(-1, 1), false);
        due("P35 hats", x.hat(0, 256), false);
        due("P35 hats", x.hat(0, -1), false);
        for (int i = 0; i < 8; i++) {
            due("P35 all", x.hat(i, 255), true);
        }
        int ways = 1;
        for (int n = 1; n <= 8; n++) {
            ways *= n;
            due("P36 all " + n, x.hats(n), ways);
        }
        due("P36 n", x.hats(0), -1);
        due("P36 n", x.hats(9), -1);
        x.hat(0, 2);
        due("P36 another's hat", x.hats(1), 0);
        due("P36 crosswise", x.hats(2), 1);
        x.hat(1, 6);
        due("P36 no first hat", x.hats(2), 0);
        due("P36 round", x.hats(3), 1);
        x.hat(2, 0);
        due("P36 one without", x.hats(3), 0);
    }

    private static void map() {
        BasketEnvoys x = new BasketEnvoys();
        for (int k = 0; k <= 5; k++) {
            due("P38 no borders " + k, x.map(k), (long) Math.pow(k, 8));
        }
        due("P38 fewest", x.map(-1), 1);
        due("P38 k", x.map(6), -1);
        due("P38 k", x.map(-2), -1);
        due("P37 alike", x.border(3, 3), -1);
        due("P37 a", x.border(8, 3), -1);
        due("P37 a", x.border(-2, 3), -1);
        due("P37 b", x.border(3, 8), -1);
        due("P37 b", x.border(0, -1), -1);
        due("P37 first", x.border(0, 7), 1);
        due("P38 one border", x.map(5), 5 * 4 * 15625);
        due("P38 one colour", x.map(1), 0);
        due("P38 two", x.map(-1), 2);
        due("P37 the same again", x.border(7, 0), 2);
        due("P38 as it was", x.map(2), 128);
        due("P37 empty", x.border(-1, -9), 0);
        int count = 0;
        for (int a = 0; a < 5; a++) {
            for (int b = 0; b < a; b++) {
                count++;
                due("P37 all with all", x.border(a, b), count);
            }
        }
        due("P38 five", x.map(-1), 5);
        due("P38 five", x.map(5), 120 * 125);
        due("P38 four are too few", x.map(4), 0);
        for (int i = 11; i <= 14; i++) {
            due("P37 more", x.border(5, i - 11), i);
        }
        due("P37 fifteenth", x.border(6, 7), -1);
        due("P38 the sixth as the fifth", x.map(5), 120 * 25);
        // a ring of eight: (k - 1)^8 + (k - 1)
        x.border(-1, 0);
        for (int i = 0; i < 8; i++) {
            x.border(i, (i + 1) % 8);
        }
        for (int k = 1; k <= 5; k++) {
            due("P38 a ring " + k, x.map(k), (long) Math.pow(k - 1, 8) + k - 1);
        }
        due("P38 a ring", x.map(-1), 2);
    }

    private static void cloths() {
        BasketEnvoys x = new BasketEnvoys();
        due("P40 both empty", x.cloths(0), 0);
        due("P40 both empty", x.cloths(2), 0);
        due("P39 row", x.cloth(2, 1), -1);
        due("P39 row", x.cloth(-1, 1), -1);
        due("P39 row", x.cloth(2, -1), -1);
        due("P39 below", x.cloth(0, -2), -1);
        due("P39 above", x.cloth(0, 10), -1);
        int[] first = {1, 2, 3, 4, 5, 6};
        int[] second = {2, 4, 6, 1, 3};
        for (int i = 0; i < first.length; i++) {
            due("P39 first", x.cloth(0, first[i]), i + 1);
        }
        due("P40 one empty", x.cloths(0), 0);
        due("P40 one empty", x.cloths(1), 6);
        due("P40 one empty", x.cloths(2), 6);
        for (int i = 0; i < second.length; i++) {
            due("P39 second", x.cloth(1, second[i]), i + 1);
        }
        due("P40 most", x.cloths(0), 3);
        due("P40 shortest", x.cloths(1), 8);
        due("P40 changes", x.cloths(2), 5);
        due("P40 other what", x.cloths(3), -1);
        due("P40 other what", x.cloths(-1), -1);
        due("P39 empty", x.cloth(0, -1), 0);
        due("P40 the second is there", x.cloths(1), 5);
        due("P39 empty", x.cloth(1, -1), 0);
        for (int i = 1; i <= 12; i++) {
            due("P39 twelve", x.cloth(0, i % 10), i);
            due("P39 twelve", x.cloth(1, (i + 1) % 10), i);
        }
        due("P39 thirteenth", x.cloth(0, 1), -1);
        due("P39 thirteenth", x.cloth(1, 1), -1);
        due("P40 moved by one", x.cloths(0), 11);
        due("P40 moved by one", x.cloths(1), 13);
        due("P40 moved by one", x.cloths(2), 2);
        // saturday and sunday, by digits: 3 changes
        x.cloth(0, -1);
        x.cloth(1, -1);
        for (char c : "12345628".toCharArray()) {
            x.cloth(0, c - '0');
        }
        for (char c : "147628".toCharArray()) {
            x.cloth(1, c - '0');
        }
        due("P40 changes", x.cloths(2), 3);
    }

    private static void words() {
        BasketEnvoys x = new BasketEnvoys();
        for (int w = 0; w < 5; w++) {
            due("P42 none told", x.word(w), w);
        }
        due("P42 none told", x.word(-1), 1);
        due("P42 word", x.word(5), -1);
        due("P42 word", x.word(-2), -1);
        for (int row : new int[] {0, 12344, 43211, 56789, 1243, 123401, 10, -2, 43210 + 100000, Integer.MAX_VALUE, Integer.MIN_VALUE}) {
            due("P41 row " + row, x.interpreter(row), row == 1243 ? 1 : -1);
        }
        due("P42 one", x.word(3), 4);
        due("P42 one", x.word(0), 0);
        due("P42 two rounds", x.word(-1), 2);
        due("P41 empty", x.interpreter(-1), 0);
        due("P41 each itself", x.interpreter(1234), 1);
        due("P42 one round", x.word(-1), 1);
        due("P41 a ring of three and two", x.interpreter(12043), 2);
        due("P42 becomes", x.word(0), 1);
        due("P42 becomes", x.word(2), 0);
        due("P42 six rounds", x.word(-1), 6);
        due("P41 then turned round", x.interpreter(43210), 3);
        due("P42 one behind another", x.word(0), 3);
        due("P42 one behind another", x.word(3), 0);
        for (int i = 4; i <= 6; i++) {
            due("P41 more", x.interpreter(43210), i);
        }
        due("P41 seventh", x.interpreter(1234), -1);
        x.interpreter(-1);
        x.interpreter(12340);
        due("P42 a ring of five", x.word(-1), 5);
    }

    private static void silence() {
        BasketEnvoys x = new BasketEnvoys();
        due("P43 nothing lies", x.silence(0, 0, 0, false), -1);
        due("P43 nothing lies", x.silence(0, 0, 0, true), -1);
        due("P43 one heap", x.silence(7, 0, 0, false), 7);
        due("P43 last heap", x.silence(0, 0, 7, false), 207);
        for (int i = 0; i < 3; i++) {
            for (int v : new int[] {-1, 8, Integer.MIN_VALUE, Integer.MAX_VALUE}) {
                due("P43 no such heap", x.silence(i == 0 ? v : 1, i == 1 ? v : 1, i == 2 ? v : 1, true), -1);
            }
        }
        Model slow = new Model();
        for (int a = 0; a < 8; a++) {
            for (int b = 0; b < 8; b++) {
                for (int c = 0; c < 8; c++) {
                    due("P43 " + a + b + c, x.silence(a, b, c, false) == -1, (a ^ b ^ c) == 0);
                    due("P43 " + a + b + c, x.silence(a, b, c, false), slow.silence(a, b, c, false));
                    due("P43 pass " + a + b + c, x.silence(a, b, c, true), slow.silence(a, b, c, true));
                }
            }
        }
    }
}
