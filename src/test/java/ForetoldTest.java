/** Promises 15 to 21: orders, the tallest, jacks, days, odds, one taken out, one set in. */
public final class ForetoldTest {
    private static final int NONE = -1, UNKNOWN = -2, OUTSIDE = -3, NOT = -4;

    private ForetoldTest() {
    }

    public static void main(String[] args) {
        ordersOfAll();
        ordersByRules();
        ordersOfNone();
        tallestSets();
        leastJacks();
        soonestDays();
        oddsInLowestTerms();
        oddsRefuse();
        withoutOne();
        inOne();
        Check.end("ForetoldTest");
    }

    private static void ordersOfAll() {
        String room = "room 1 999 1";
        TopDownTowers x = Check.towerOf(String.join(";", room, room, room, room, room, room, room, room));
        Check.due("15: all of eight", x.orders(NONE), 40320);
        for (int i = 0; i < 8; i++) {
            Check.due("15: orders(" + i + ")", x.orders(i), i);
        }
        Check.due("15: not so many", x.orders(8), NONE);
        Check.due("15: far", x.orders(Integer.MAX_VALUE), NONE);
        Check.due("15: below NONE", x.orders(-2), OUTSIDE);
        Check.due("15: far below", x.orders(Integer.MIN_VALUE), OUTSIDE);
        Check.tell(x, "wind 0 39 9");
        Check.due("15: winds left out", x.orders(NONE), 40320);
        x.rest(40);
        x.lift(5);
        Check.due("15: from nothing on", x.orders(NONE), 40320);
        Check.due("15: nothing changes", x.count(4), 1);
    }

    private static void ordersByRules() {
        TopDownTowers x = Check.towerOf("room 1 99 1;cellar 1 99 1;roof 1 99 1;room 1 99 1;above 3 0");
        Check.due("15: roof, 3, 0, cellar", x.orders(NONE), 1);
        int[] due = {2, 3, 0, 1, NONE};
        for (int i = 0; i < due.length; i++) {
            Check.due("15: orders(" + i + ")", x.orders(i), due[i]);
        }
        TopDownTowers y = Check.towerOf("room 50 10 1;room 10 50 1;room 10 20 1");
        Check.due("15: by STRENGTH none", y.orders(NONE), 0);
        Check.tell(y, "site;room 50 20 1;room 10 60 1;room 10 10 1");
        Check.due("15: 1 2 0, 2 0 1, 2 1 0", y.orders(NONE), 3);
        Check.due("15: the first", y.orders(0), 1);
        Check.due("15: the first", y.orders(1), 2);
        Check.due("15: the first", y.orders(2), 0);
        Check.tell(y, "jacks 59");
        Check.due("15: jacks are too weak for 2 0 1", y.orders(NONE), 2);
        Check.tell(y, "jacks 20;folk 1 1");
        Check.due("15: FOLK", y.orders(NONE), 0);
    }

    private static void ordersOfNone() {
        TopDownTowers x = new TopDownTowers();
        Check.due("15: of nothing one", x.orders(NONE), 1);
        Check.due("15: of nothing", x.orders(0), NONE);
        Check.tell(x, "roof 1 1 1;roof 1 1 1");
        Check.due("15: two ROOFS", x.orders(NONE), 0);
        Check.due("15: none", x.orders(0), NONE);
        Check.due("15: none", x.orders(2), NONE);
    }

    private static void tallestSets() {
        TopDownTowers x = new TopDownTowers();
        Check.due("16: of nothing", x.tallest(0), 0);
        Check.due("16: of nothing", x.tallest(1), 0);
        Check.due("16: what 2", x.tallest(2), OUTSIDE);
        Check.due("16: what -1", x.tallest(-1), OUTSIDE);
        Check.tell(x, "roof 1 99 3;roof 1 99 3;room 1 99 2;wind 0 39 9");
        Check.due("16: one ROOF, the ROOM", x.tallest(0), 5);
        Check.due("16: of two sets the least", x.tallest(1), 5);
        Check.tell(x, "site;room 1 99 2;room 1 99 3");
        Check.due("16: all of them", x.tallest(0), 5);
        Check.due("16: all of them", x.tallest(1), 3);
        Check.tell(x, "jacks 0");
        Check.due("16: nothing of an earlier call", x.tallest(1), 2);
        Check.tell(x, "site;room 9 0 2;room 9 0 3");
        Check.due("16: only one can be", x.tallest(0), 3);
        Check.due("16: the second", x.tallest(1), 2);
        Check.tell(x, "site;room 5 99 1;room 9 99 1;room 9 99 1;jacks 5");
        Check.due("16: by jacks", x.tallest(0), 2);
        Check.due("16: by jacks, the least", x.tallest(1), 3);
        Check.tell(x, "jacks 4");
        Check.due("16: weaker jacks", x.tallest(0), 1);
        Check.due("16: the least", x.tallest(1), 1);
        Check.tell(x, "site;room 1 9 1;room 1 9 1;room 1 9 9;above 0 1;above 1 0;above 0 2");
        Check.due("16: 0 and 1 want one another", x.tallest(0), 0);
        Check.due("16: nothing", x.tallest(1), 0);
    }

    private static void leastJacks() {
        TopDownTowers x = new TopDownTowers();
        Check.due("17: of nothing", x.jacks(), 0);
        Check.tell(x, "room 99 0 1;folk 0 99;jacks 0");
        Check.due("17: one alone", x.jacks(), 0);
        Check.tell(x, "site;room 10 999 1;room 30 999 1;room 20 999 1;folk 2 15;jacks 0");
        Check.due("17: the heaviest last", x.jacks(), 40);
        Check.due("1: but now not", x.orders(NONE), 0);
        Check.tell(x, "above 2 0");
        Check.due("17: 2 is not the last", x.jacks(), 45);
        Check.tell(x, "above 0 1;above 1 2");
        Check.due("17: by none", x.jacks(), NONE);
        Check.tell(x, "site;room 50 40 1;room 45 999 1;wind 0 39 9");
        Check.due("17: 0 is too weak to be last", x.jacks(), 50);
        String heavy = "room 99 999 1";
        Check.tell(x, String.join(";", "site", heavy, heavy, heavy, heavy, heavy, heavy, heavy, heavy, "folk 0 99"));
        Check.due("17: more than the 500", x.jacks(), 693);
        Check.tell(x, "folk 1 99;folk 2 99;folk 3 99;folk 4 99");
        Check.due("17: above all STRENGTH", x.jacks(), NONE);
    }

    private static void soonestDays() {
        TopDownTowers x = Check.towerOf("wind 0 0 9;wind 1 2 8;wind 3 36 9;wind 38 38 9");
        int[] due = {1, 2, 37, 39, 40, 41, 42, 43};
        for (int k = 1; k <= 8; k++) {
            Check.due("18: soonest(" + k + ")", x.soonest(k), due[k - 1]);
        }
        Check.due("18: 0", x.soonest(0), OUTSIDE);
        Check.due("18: 9", x.soonest(9), OUTSIDE);
        Check.due("18: -1", x.soonest(-1), OUTSIDE);
        x.rest(50);
        Check.due("18: from DAY 0 on", x.soonest(1), 1);
        Check.tell(x, "wind 0 39 9");
        Check.due("18: behind the winds", x.soonest(1), 40);
        Check.due("18: behind the winds", x.soonest(8), 47);
    }

    private static void odds(int d, int k, int p, long above, long below) {
        TopDownTowers x = new TopDownTowers();
        String call = "19: odds(" + d + ", " + k + ", " + p + ", ";
        Check.due(call + "0)", x.odds(d, k, p, 0), above);
        Check.due(call + "1)", x.odds(d, k, p, 1), below);
    }

    private static void oddsInLowestTerms() {
        odds(0, 0, 0, 1, 1);
        odds(0, 0, 10, 1, 1);
        odds(0, 1, 5, 0, 1);
        odds(1, 1, 3, 7, 10);
        odds(1, 1, 4, 3, 5);
        odds(1, 1, 5, 1, 2);
        odds(2, 1, 3, 91, 100);
        odds(2, 2, 3, 49, 100);
        odds(3, 2, 5, 1, 2);
        odds(5, 0, 7, 1, 1);
        odds(5, 5, 0, 1, 1);
        odds(5, 1, 10, 0, 1);
        odds(5, 6, 0, 0, 1);
        odds(18, 18, 7, 387420489, 1000000000000000000L);
        odds(18, 18, 1, 150094635296999121L, 1000000000000000000L);
        odds(18, 1, 9, 849905364703000879L, 1000000000000000000L);
        odds(18, 1, 1, 999999999999999999L, 1000000000000000000L);
        odds(18, 18, 5, 1, 262144);
        odds(18, 18, 8, 1, 3814697265625L);
    }

    private static void oddsRefuse() {
        TopDownTowers x = new TopDownTowers();
        int[][] wrong = {{19, 0, 0, 0}, {-1, 0, 0, 0}, {0, 19, 0, 0}, {0, -1, 0, 0}, {0, 0, 11, 0}, {0, 0, -1, 0},
            {0, 0, 0, 2}, {0, 0, 0, -1}, {Integer.MAX_VALUE, 0, 0, 0}, {0, Integer.MIN_VALUE, 0, 0}};
        for (int[] w : wrong) {
            Check.due("19: OUTSIDE", x.odds(w[0], w[1], w[2], w[3]), OUTSIDE);
        }
    }

    private static void withoutOne() {
        TopDownTowers x = Check.towerOf("room 9 99 1;room 9 99 1;room 9 99 1;room 9 99 1;above 0 2;above 1 3;wind 1 1 9");
        x.lift(1);
        x.rest(1);
        x.lift(0);
        x.lift(2);
        Check.due("20: not up", x.without(3), NOT);
        x.lift(3);
        Check.due("20: 2 could not", x.without(0), 1);
        Check.due("20: 3 could not", x.without(1), 2);
        Check.due("20: all could", x.without(2), NONE);
        Check.due("20: the last", x.without(3), NONE);
        Check.due("20: no such", x.without(4), UNKNOWN);
        Check.due("20: no such", x.without(-1), UNKNOWN);
        Check.due("20: nothing changes", x.count(4), 4);
        TopDownTowers y = Check.towerOf("room 9 99 1");
        Check.due("20: nothing is up", y.without(0), NOT);
        y.lift(0);
        Check.due("20: the one alone", y.without(0), NONE);
    }

    private static void inOne() {
        TopDownTowers x = Check.towerOf("room 10 99 1;room 10 15 1;room 10 12 1;roof 1 99 1;cellar 1 99 1;bells 5 99 1");
        x.lift(0);
        x.lift(1);
        Check.due("21: too heavy for it", x.in(2, 0), 0);
        Check.due("21: then 1 could not", x.in(2, 1), 0);
        Check.due("21: too weak itself", x.in(2, 2), 0);
        Check.due("21: ROOF first", x.in(3, 0), 1);
        Check.due("21: ROOF second", x.in(3, 1), 0);
        Check.due("21: CELLAR last", x.in(4, 2), 1);
        Check.due("21: CELLAR not last", x.in(4, 1), 0);
        Check.due("21: BELLS first", x.in(5, 0), 1);
        Check.due("21: BELLS second", x.in(5, 1), 1);
        Check.due("21: BELLS last", x.in(5, 2), 1);
        Check.due("21: i above", x.in(5, 3), OUTSIDE);
        Check.due("21: i below", x.in(5, -1), OUTSIDE);
        Check.due("21: it is up", x.in(0, 0), NOT);
        Check.due("21: OUTSIDE ahead of NOT", x.in(0, 3), OUTSIDE);
        Check.due("21: UNKNOWN first", x.in(6, 3), UNKNOWN);
        Check.due("21: no such", x.in(-1, 0), UNKNOWN);
        Check.due("21: nothing changes", x.count(4), 2);
        TopDownTowers y = Check.towerOf("room 10 99 1;room 10 99 1;room 10 99 1;bells 10 99 1;jacks 25;wind 0 39 9");
        y.rest(40);
        y.lift(0);
        y.lift(1);
        y.lift(2);
        Check.due("21: jacks", y.in(3, 0), 0);
        Check.tell(y, "jacks 30");
        y.rest(40);
        Check.due("21: the first, winds left out", y.in(3, 0), 1);
        y.lift(0);
        y.lift(1);
        y.lift(2);
        Check.due("21: BELLS third", y.in(3, 2), 1);
        Check.due("21: BELLS fourth", y.in(3, 3), 0);
        String room = "room 1 99 1";
        TopDownTowers z = Check.towerOf(String.join(";", room, room, room, room, room, room, room, "room 1 4 1"));
        for (int s = 0; s < 7; s++) {
            z.lift(s);
        }
        for (int i = 0; i <= 7; i++) {
            Check.due("21: the eighth, " + i, z.in(7, i), i <= 4 ? 1 : 0);
        }
        Check.due("21: above seven", z.in(7, 8), OUTSIDE);
    }
}
