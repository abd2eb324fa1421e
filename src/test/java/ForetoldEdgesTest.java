import java.util.function.Supplier;

/** The edges that the document names of what is foretold (promises 15 to 21), each on both sides. */
public final class ForetoldEdgesTest {
    private static final int NONE = -1, UNKNOWN = -2, OUTSIDE = -3, NOT = -4;
    private static final int[] FAR = {Integer.MIN_VALUE, Integer.MAX_VALUE};
    private static final String WINDY = ";wind 0 39 9";

    private ForetoldEdgesTest() {
    }

    public static void main(String[] args) {
        orders();
        ordersOfAll();
        ordersOfNone();
        theFirstOrder();
        tallest();
        tallestOfAll();
        tallestOfSeveral();
        leastJacks();
        leastJacksByNone();
        soonest();
        soonestByWinds();
        odds();
        oddsOutside();
        lowestTerms();
        without();
        withoutOneAbove();
        inPlace();
        inByReasons();
        Check.end("ForetoldEdgesTest");
    }

    private static TopDownTowers with(String text, int... storeys) {
        TopDownTowers x = Check.towerOf(text);
        if (text.endsWith(WINDY)) {
            x.rest(40);
        }
        for (int i = 0; i < storeys.length; i++) {
            Check.due("lift(" + storeys[i] + ")", x.lift(storeys[i]), i + 1);
        }
        return x;
    }

    private static String times(int many, String line) {
        return (line + ";").repeat(many).substring(0, many * (line.length() + 1) - 1);
    }

    private static void ordersAre(int many, String text, int... first) {
        Supplier<TopDownTowers> making = () -> with(text);
        Twins.unchanged("orders(-1) of '" + text + "'", making, x -> x.orders(NONE), many);
        for (int i = 0; i < first.length; i++) {
            int asked = i;
            Twins.unchanged("orders(" + i + ") of '" + text + "'", making, x -> x.orders(asked), first[i]);
        }
        Twins.unchanged("orders behind", making, x -> x.orders(first.length), NONE);
    }

    private static void orders() {
        Check.sentence("ORDERS: how many (i NONE), the i-th STOREY of the first one; NONE: there is none, or not so many. "
            + "OUTSIDE: i below NONE.");
        Supplier<TopDownTowers> two = () -> with("room 1 9 1;room 1 9 1");
        Twins.unchanged("orders(-1)", two, x -> x.orders(-1), 2);
        Twins.unchanged("orders(0)", two, x -> x.orders(0), 0);
        Twins.unchanged("orders(1)", two, x -> x.orders(1), 1);
        Twins.unchanged("orders(2)", two, x -> x.orders(2), NONE);
        Twins.unchanged("orders(8)", two, x -> x.orders(8), NONE);
        Twins.unchanged("orders, far", two, x -> x.orders(Integer.MAX_VALUE), NONE);
        Twins.unchanged("orders(-2)", two, x -> x.orders(-2), OUTSIDE);
        Twins.unchanged("orders, far below", two, x -> x.orders(Integer.MIN_VALUE), OUTSIDE);
    }

    private static void ordersOfAll() {
        Check.sentence("ORDERS in which all STOREYS can be set from nothing on, winds left out");
        ordersAre(40320, times(8, "room 1 9 1"), 0, 1, 2, 3, 4, 5, 6, 7);
        ordersAre(2, "room 1 9 1;room 1 9 1" + WINDY, 0, 1);
        Twins.unchanged("something is up", () -> with("room 1 9 1;room 1 9 1", 1), x -> x.orders(0), 0);
        ordersAre(2, "room 5 5 1;room 5 5 1;jacks 5", 0, 1);
        ordersAre(0, "room 5 5 1;room 5 5 1;jacks 4");
        ordersAre(1, "room 5 5 1;room 5 4 1;jacks 5", 1, 0);
        ordersAre(1, "room 9 9 1;room 9 9 1;above 1 0", 1, 0);
        ordersAre(1, "cellar 1 9 1;roof 1 9 1", 1, 0);
        ordersAre(18, "room 1 9 1;room 1 9 1;room 1 9 1;bells 1 9 1", 0, 1, 3, 2);
    }

    private static void ordersOfNone() {
        Check.sentence("NONE: there is none, or not so many.");
        Twins.unchanged("of no STOREY one", TopDownTowers::new, x -> x.orders(NONE), 1);
        Twins.unchanged("of no STOREY", TopDownTowers::new, x -> x.orders(0), NONE);
        ordersAre(1, "room 1 0 1;jacks 0", 0);
        ordersAre(0, "room 1 0 1;room 1 0 1");
        ordersAre(0, "roof 1 9 1;roof 1 9 1");
        ordersAre(0, "cellar 1 9 1;cellar 1 9 1");
        ordersAre(0, "room 1 9 1;room 1 9 1;above 0 1;above 1 0");
        ordersAre(0, times(4, "bells 1 9 1"));
        ordersAre(6, times(3, "bells 1 9 1"), 0, 1, 2);
    }

    private static void theFirstOrder() {
        Check.sentence("(by the first STOREY's number, then the next, ..)");
        ordersAre(3, "room 1 9 1;room 1 9 1;room 1 9 1;above 2 1", 0, 2, 1);
        ordersAre(2, "room 1 9 1;room 1 9 1;room 1 9 1;above 2 0;above 1 0", 1, 2, 0);
        ordersAre(3, "room 50 20 1;room 10 60 1;room 10 10 1", 1, 2, 0);
    }

    private static void tallestIs(int height, int set, String text, int... storeys) {
        Supplier<TopDownTowers> making = () -> with(text, storeys);
        Twins.unchanged("tallest(0) of '" + text + "'", making, x -> x.tallest(0), height);
        Twins.unchanged("tallest(1) of '" + text + "'", making, x -> x.tallest(1), set);
    }

    private static void tallest() {
        Check.sentence("TALLEST: the HEIGHT (what 0), the set by bits (1). OUTSIDE.");
        tallestIs(3, 3, "room 1 9 1;room 1 9 2");
        Supplier<TopDownTowers> two = () -> with("room 1 9 1;room 1 9 2");
        Twins.unchanged("tallest(2)", two, x -> x.tallest(2), OUTSIDE);
        Twins.unchanged("tallest(-1)", two, x -> x.tallest(-1), OUTSIDE);
        for (int far : FAR) {
            Twins.unchanged("tallest(" + far + ")", two, x -> x.tallest(far), OUTSIDE);
        }
    }

    private static void tallestOfAll() {
        Check.sentence("TALLEST: the greatest HEIGHT together that can be up, from nothing on, winds left out");
        tallestIs(72, 255, times(8, "room 1 9 9"));
        tallestIs(0, 0, "site");
        tallestIs(0, 0, "room 1 9 9;room 1 9 9;above 0 1;above 1 0");
        tallestIs(3, 3, "room 1 9 1;room 1 9 2" + WINDY);
        tallestIs(3, 3, "room 1 9 1;room 1 9 2", 0);
        tallestIs(3, 3, "room 5 9 1;room 9 5 2;jacks 5");
        tallestIs(2, 2, "room 5 9 1;room 9 5 2;jacks 4");
        tallestIs(2, 2, "room 5 8 1;room 9 4 2");
        tallestIs(9, 4, "room 1 9 4;room 1 9 4;cellar 1 9 9;above 2 0;above 2 1");
        tallestIs(12, 5, "cellar 1 9 9;cellar 1 9 8;roof 1 9 3");
        TopDownTowers x = with("room 1 9 1;room 1 9 2");
        Check.due("all", x.tallest(0), 3);
        Check.tell(x, "jacks 0");
        Check.due("nothing is left of an earlier answer", x.tallest(0), 2);
        Check.due("nothing is left of an earlier answer", x.tallest(1), 2);
    }

    private static void tallestOfSeveral() {
        Check.sentence("the set, of several the least");
        tallestIs(3, 1, "room 9 0 3;room 9 0 3");
        tallestIs(3, 3, "room 5 5 1;room 5 5 2;room 9 0 3");
        tallestIs(3, 1, "room 9 0 3;room 5 5 1;room 5 5 2");
        tallestIs(4, 2, "room 9 0 3;room 9 0 4;room 9 0 4");
    }

    private static void leastJacksAre(int least, String text) {
        Twins.unchanged("jacks() of '" + text + "'", () -> with(text), x -> x.jacks(), least);
        TopDownTowers x = with(text);
        if (least >= 0) {
            Check.tell(x, "jacks " + least);
            Check.holds("so many are enough", x.orders(NONE) > 0);
        }
        if (least > 0) {
            Check.tell(x, "jacks " + (least - 1));
            Check.due("one less is not", x.orders(NONE), 0);
        }
        if (least == NONE) {
            Check.tell(x, "jacks 999");
            Check.due("the most are not", x.orders(NONE), 0);
        }
    }

    private static void leastJacks() {
        Check.sentence("LEAST JACKS: the least that JACKS have to bear so that all can be set in some ORDER");
        leastJacksAre(0, "site");
        leastJacksAre(0, "room 99 0 1;folk 0 99");
        leastJacksAre(1, "room 1 99 1;room 99 99 1");
        leastJacksAre(4, "room 1 99 1;room 99 99 1;folk 0 3");
        leastJacksAre(99, "room 1 99 1;room 99 98 1;above 1 0");
        leastJacksAre(30, "room 10 999 1;room 30 999 1;room 20 999 1;jacks 0");
        leastJacksAre(40, "room 10 999 1;room 30 29 1;room 20 999 1");
        leastJacksAre(693, times(8, "room 99 999 1") + ";jacks 0");
        leastJacksAre(30, "room 10 999 1;room 30 999 1;room 20 999 1" + WINDY);
    }

    /** Six of 198 pounds and one of the rest: the last one is set below all but one of 198. */
    private static String heavyTowers(int rest) {
        return times(6, "room 99 999 1") + ";room " + rest + " 999 1";
    }

    private static void leastJacksByNone() {
        Check.sentence("LEAST JACKS (0 .. 9999); NONE.");
        String folk = "folk 0 99;folk 1 99;folk 2 99;folk 3 99;folk 4 99;folk 5 99";
        TopDownTowers x = with(heavyTowers(9));
        Check.tell(x, folk);
        Check.due("STRENGTH of 999 below 999 pounds", x.jacks(), 999);
        TopDownTowers y = with(heavyTowers(10));
        Check.tell(y, folk);
        Check.due("STRENGTH of 999 below 1000 pounds", y.jacks(), NONE);
        leastJacksAre(5, "room 5 5 1;room 5 4 1");
        leastJacksAre(NONE, "room 5 4 1;room 5 4 1");
        leastJacksAre(NONE, "roof 5 9 1;roof 5 9 1");
        leastJacksAre(NONE, "room 5 9 1;room 5 9 1;above 0 1;above 1 0");
    }

    private static void soonest() {
        Check.sentence("SOONEST: the DAY on which the k-th STOREY (1 .. 8) could be set at the earliest");
        Supplier<TopDownTowers> windy = () -> with("wind 0 2 9;wind 4 4 9");
        Twins.unchanged("soonest(0)", windy, x -> x.soonest(0), OUTSIDE);
        Twins.unchanged("soonest(1)", windy, x -> x.soonest(1), 3);
        Twins.unchanged("soonest(2)", windy, x -> x.soonest(2), 5);
        Twins.unchanged("soonest(8)", windy, x -> x.soonest(8), 11);
        Twins.unchanged("soonest(9)", windy, x -> x.soonest(9), OUTSIDE);
        Twins.unchanged("soonest(-1)", windy, x -> x.soonest(-1), OUTSIDE);
        for (int far : FAR) {
            Twins.unchanged("soonest(" + far + ")", windy, x -> x.soonest(far), OUTSIDE);
        }
    }

    private static void soonestAre(String text, int... due) {
        TopDownTowers x = text.isEmpty() ? new TopDownTowers() : Check.towerOf(text);
        x.rest(7);
        for (int k = 1; k <= 8; k++) {
            Check.due("soonest(" + k + ") of '" + text + "'", x.soonest(k), due[k - 1]);
        }
    }

    private static void soonestByWinds() {
        Check.sentence("by winds alone, if one could be set on each DAY from DAY 0 on");
        soonestAre("", 0, 1, 2, 3, 4, 5, 6, 7);
        soonestAre("wind 0 39 8", 0, 1, 2, 3, 4, 5, 6, 7);
        soonestAre("wind 0 39 9", 40, 41, 42, 43, 44, 45, 46, 47);
        soonestAre("wind 0 38 9", 39, 40, 41, 42, 43, 44, 45, 46);
        soonestAre("wind 1 39 9", 0, 40, 41, 42, 43, 44, 45, 46);
        soonestAre("wind 7 39 9", 0, 1, 2, 3, 4, 5, 6, 40);
        soonestAre("wind 8 39 9", 0, 1, 2, 3, 4, 5, 6, 7);
        soonestAre("roof 1 0 1;roof 1 0 1;jacks 0", 0, 1, 2, 3, 4, 5, 6, 7);
    }

    private static void oddsAre(long above, long below, int d, int k, int p) {
        TopDownTowers x = new TopDownTowers();
        String call = "odds(" + d + ", " + k + ", " + p + ", ";
        Check.due(call + "0)", x.odds(d, k, p, 0), above);
        Check.due(call + "1)", x.odds(d, k, p, 1), below);
    }

    private static void odds() {
        Check.sentence("ODDS that of d DAYS (0 .. 18) at least k (0 .. 18) have no WIND of 9, if each has it by p tenths "
            + "(0 .. 10), by itself.");
        oddsAre(1, 1, 0, 0, 5);
        oddsAre(0, 1, 0, 1, 5);
        oddsAre(0, 1, 0, 18, 0);
        oddsAre(1, 1, 18, 0, 10);
        oddsAre(0, 1, 18, 1, 10);
        oddsAre(1, 1, 18, 18, 0);
        oddsAre(0, 1, 17, 18, 0);
        oddsAre(1, 1, 17, 17, 0);
        oddsAre(1, 1000000000000000000L, 18, 18, 9);
        oddsAre(999999999999999999L, 1000000000000000000L, 18, 1, 1);
        oddsAre(150094635296999121L, 1000000000000000000L, 18, 18, 1);
        oddsAre(9, 10, 1, 1, 1);
        oddsAre(1, 10, 1, 1, 9);
        oddsAre(19, 100, 2, 1, 9);
        oddsAre(1, 100, 2, 2, 9);
    }

    private static void oddsOutside() {
        Check.sentence("`long odds(int d, int k, int p, int part)`: ODDS. OUTSIDE.");
        int[] most = {18, 18, 10, 1};
        for (int place = 0; place < 4; place++) {
            for (int value : new int[] {-1, most[place] + 1, Integer.MIN_VALUE, Integer.MAX_VALUE}) {
                int[] asked = {3, 2, 5, 1};
                asked[place] = value;
                Twins.unchanged("odds, number " + place + " is " + value, TopDownTowers::new,
                    x -> x.odds(asked[0], asked[1], asked[2], asked[3]), OUTSIDE);
            }
            for (int value : new int[] {0, most[place]}) {
                int[] asked = {3, 2, 5, 1};
                asked[place] = value;
                long answer = new TopDownTowers().odds(asked[0], asked[1], asked[2], asked[3]);
                Check.holds("odds, number " + place + " is " + value, answer >= 0);
            }
        }
    }

    private static void lowestTerms() {
        Check.sentence("Parts are told in lowest terms: above (part 0), below (1).");
        oddsAre(1, 2, 1, 1, 5);
        oddsAre(3, 5, 1, 1, 4);
        oddsAre(7, 10, 1, 1, 3);
        oddsAre(1, 2, 3, 2, 5);
        oddsAre(1, 262144, 18, 18, 5);
        oddsAre(262143, 262144, 18, 1, 5);
        oddsAre(1, 3814697265625L, 18, 18, 8);
        oddsAre(3814697265624L, 3814697265625L, 18, 1, 2);
    }

    private static void without() {
        Check.sentence("`int without(int storey)`: WITHOUT; NONE. UNKNOWN; NOT: it is not up.");
        Supplier<TopDownTowers> two = () -> with("room 1 9 1;room 1 9 1;room 1 9 1;above 2 0", 2, 0);
        Twins.unchanged("without(0)", two, x -> x.without(0), NONE);
        Twins.unchanged("without(1)", two, x -> x.without(1), NOT);
        Twins.unchanged("without(2)", two, x -> x.without(2), 0);
        Twins.unchanged("without(3)", two, x -> x.without(3), UNKNOWN);
        Twins.unchanged("without(-1)", two, x -> x.without(-1), UNKNOWN);
        for (int far : FAR) {
            Twins.unchanged("without(" + far + ")", two, x -> x.without(far), UNKNOWN);
        }
        Twins.unchanged("one alone", () -> with("room 1 9 1", 0), x -> x.without(0), NONE);
        Twins.unchanged("nothing is up", () -> with("room 1 9 1"), x -> x.without(0), NOT);
        Twins.unchanged("none told", TopDownTowers::new, x -> x.without(0), UNKNOWN);
    }

    private static void withoutOneAbove() {
        Check.sentence("WITHOUT a STOREY that is up: the first LIFT (its number from 0, of those that are left) "
            + "that could not be, were it never set; none: all could.");
        String text = times(8, "room 1 9 1") + ";above 0 7;above 1 3;above 1 2";
        Supplier<TopDownTowers> eight = () -> with(text, 0, 1, 4, 2, 3, 5, 6, 7);
        Twins.unchanged("the last of those left", eight, x -> x.without(0), 6);
        Twins.unchanged("the first that could not", eight, x -> x.without(1), 2);
        for (int s = 2; s <= 7; s++) {
            int asked = s;
            Twins.unchanged("without(" + s + ")", eight, x -> x.without(asked), NONE);
        }
        String calm = "room 1 9 1;room 1 9 1;wind 0 0 9";
        Supplier<TopDownTowers> later = () -> {
            TopDownTowers x = Check.towerOf(calm);
            x.rest(1);
            x.lift(0);
            x.lift(1);
            return x;
        };
        Twins.unchanged("winds left out", later, x -> x.without(0), NONE);
    }

    private static void inPlace() {
        Check.sentence("IN: 1, 0. UNKNOWN; OUTSIDE: i (0 .. how many are up); NOT: it is up.");
        Supplier<TopDownTowers> two = () -> with("room 1 9 1;room 1 9 1;room 1 9 1", 2, 0);
        for (int i = 0; i <= 2; i++) {
            int asked = i;
            Twins.unchanged("in(1, " + i + ")", two, x -> x.in(1, asked), 1);
            Twins.unchanged("in(0, " + i + ")", two, x -> x.in(0, asked), NOT);
            Twins.unchanged("in(3, " + i + ")", two, x -> x.in(3, asked), UNKNOWN);
        }
        for (int i : new int[] {-1, 3, 8, Integer.MIN_VALUE, Integer.MAX_VALUE}) {
            Twins.unchanged("in(1, " + i + ")", two, x -> x.in(1, i), OUTSIDE);
            Twins.unchanged("OUTSIDE ahead of NOT", two, x -> x.in(0, i), OUTSIDE);
            Twins.unchanged("UNKNOWN ahead of OUTSIDE", two, x -> x.in(3, i), UNKNOWN);
            Twins.unchanged("UNKNOWN ahead of OUTSIDE", two, x -> x.in(-1, i), UNKNOWN);
        }
        for (int far : FAR) {
            Twins.unchanged("in(" + far + ", 0)", two, x -> x.in(far, 0), UNKNOWN);
        }
        Supplier<TopDownTowers> eight = () -> with(times(8, "room 1 9 1"), 0, 1, 2, 3, 4, 5, 6, 7);
        Twins.unchanged("eight are up", eight, x -> x.in(7, 8), NOT);
        Twins.unchanged("eight are up, i above", eight, x -> x.in(7, 9), OUTSIDE);
        Supplier<TopDownTowers> seven = () -> with(times(8, "room 1 9 1"), 0, 1, 2, 3, 4, 5, 6);
        Twins.unchanged("the eighth, first", seven, x -> x.in(7, 0), 1);
        Twins.unchanged("the eighth, last", seven, x -> x.in(7, 7), 1);
        Twins.unchanged("the eighth, i above", seven, x -> x.in(7, 8), OUTSIDE);
        Twins.unchanged("nothing is up", () -> with("room 1 9 1"), x -> x.in(0, 0), 1);
        Twins.unchanged("nothing is up, i above", () -> with("room 1 9 1"), x -> x.in(0, 1), OUTSIDE);
    }

    private static void inAre(String text, int storey, int[] due, int... storeys) {
        for (int i = 0; i < due.length; i++) {
            int asked = i;
            Twins.unchanged("in(" + storey + ", " + i + ") of '" + text + "'", () -> with(text, storeys),
                x -> x.in(storey, asked), due[i]);
        }
    }

    private static void inByReasons() {
        Check.sentence("IN: whether a STOREY that is not up could have been set as the i-th, so that all LIFTS could be "
            + "(winds left out in both).");
        inAre("room 5 9 1;room 5 10 1;room 5 9 1", 2, new int[] {1, 1, 0}, 0, 1);
        inAre("room 5 9 1;room 5 9 1;room 5 9 1", 2, new int[] {0, 0, 0}, 0, 1);
        inAre("room 5 99 1;room 5 99 1;room 5 99 1;jacks 10", 2, new int[] {1, 1, 1}, 0, 1);
        inAre("room 5 99 1;room 5 99 1;room 6 99 1;jacks 10", 2, new int[] {0, 0, 1}, 0, 1);
        inAre("roof 1 9 1;room 1 9 1;room 1 9 1", 2, new int[] {0, 1, 1}, 0, 1);
        inAre("room 1 9 1;room 1 9 1;roof 1 9 1", 2, new int[] {1, 0, 0}, 0, 1);
        inAre("room 1 9 1;room 1 9 1;cellar 1 9 1", 2, new int[] {0, 0, 1}, 0, 1);
        inAre("room 1 9 1;cellar 1 9 1;room 1 9 1", 2, new int[] {1, 1, 0}, 0, 1);
        inAre(times(3, "room 1 9 1") + ";bells 1 9 1", 3, new int[] {1, 1, 1, 0}, 0, 1, 2);
        inAre("bells 1 9 1;room 1 9 1;room 1 9 1;room 1 9 1", 3, new int[] {0, 0, 0, 1}, 1, 2, 0);
        inAre("room 1 9 1;room 1 9 1;room 1 9 1;above 0 2", 2, new int[] {0, 1, 1}, 0, 1);
        inAre("room 1 9 1;room 1 9 1;room 1 9 1" + WINDY, 2, new int[] {1, 1, 1}, 0, 1);
    }
}
