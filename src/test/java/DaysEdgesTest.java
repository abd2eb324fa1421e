import java.util.function.Supplier;

/** The edges that the document names of LIFTS and DAYS (promises 8 to 14), each on both sides. */
public final class DaysEdgesTest {
    private static final int NONE = -1, UNKNOWN = -2, OUTSIDE = -3, NOT = -4, FULL = -5;
    private static final int UP = 1, PLACE = 2, STRENGTH = 3, JACKS = 4, WIND = 5;
    private static final int[] NO_STOREYS = {-1, Integer.MIN_VALUE, Integer.MAX_VALUE};

    private DaysEdgesTest() {
    }

    public static void main(String[] args) {
        load();
        oneADay();
        whyUp();
        whyRoof();
        whyCellar();
        whyBells();
        whyPair();
        whyStrength();
        whyJacks();
        whyWind();
        whyTheFirst();
        liftOfNothing();
        why();
        lift();
        lastDay();
        rest();
        restToTheLastDay();
        up();
        floor();
        keep();
        back();
        bothKept();
        backSinceTheLastText();
        calls();
        Check.end("DaysEdgesTest");
    }

    /** A tower told so, with these STOREYS set on DAY 0, 1, .. */
    private static TopDownTowers with(String text, int... storeys) {
        TopDownTowers x = Check.towerOf(text);
        for (int i = 0; i < storeys.length; i++) {
            Check.due("lift(" + storeys[i] + ")", x.lift(storeys[i]), i + 1);
        }
        return x;
    }

    private static void restFor(TopDownTowers x, int days) {
        for (int left = days; left > 0; left -= 99) {
            x.rest(Math.min(99, left));
        }
    }

    /** What WHY says, and that a LIFT is then refused and changes nothing, or is done. */
    private static void whyIs(int due, int storey, String text, int... storeys) {
        Supplier<TopDownTowers> making = () -> with(text, storeys);
        String call = "(" + storey + ") of '" + text + "'";
        Twins.unchanged("why" + call, making, x -> x.why(storey), due);
        if (due == 0) {
            Check.due("lift" + call, making.get().lift(storey), storeys.length + 1);
        } else {
            Twins.unchanged("lift" + call, making, x -> x.lift(storey), NOT);
        }
    }

    private static void load() {
        Check.sentence("LOAD of a set of STOREYS is WEIGHT and FOLK of all of it.");
        String heavy = "room 99 999 1";
        TopDownTowers x = Check.towerOf(String.join(";", heavy, heavy, heavy, heavy, heavy, heavy, heavy, "jacks 999"));
        Check.tell(x, "folk 0 99;folk 1 99;folk 2 99;folk 3 99;folk 4 99;folk 5 99;folk 6 99");
        Check.due("of nothing", x.count(7), 0);
        for (int s = 0; s < 6; s++) {
            Check.due("LIFT of " + 198 * s, x.lift(s), s + 1);
            Check.due("LOAD", x.count(7), 198 * (s + 1));
        }
        Check.due("STRENGTH is below 1188", x.why(6), STRENGTH);
        TopDownTowers y = with("room 7 9 1;room 1 7 1");
        Check.due("WEIGHT alone, of one that is not up nothing", y.lift(0), 1);
        Check.due("WEIGHT alone", y.count(7), 7);
    }

    private static void oneADay() {
        Check.sentence("On a DAY one STOREY can be set below all that is up (a LIFT of these), or one waits; "
            + "then it is the next DAY.");
        TopDownTowers x = with("room 1 99 1;room 1 99 1");
        Check.due("DAY 0", x.count(5), 0);
        x.lift(0);
        Check.due("set on DAY 0", x.count(5), 1);
        x.rest(1);
        Check.due("waited on DAY 1", x.count(5), 2);
        x.lift(1);
        Check.due("set on DAY 2", x.count(5), 3);
        Check.due("the one set later is below", x.floor(1), 0);
        Check.due("the other one is above", x.floor(0), 1);
    }

    private static void whyUp() {
        Check.sentence("1 it is up");
        whyIs(0, 0, "room 1 99 1;room 1 99 1");
        whyIs(UP, 0, "room 1 99 1;room 1 99 1", 0);
        whyIs(0, 1, "room 1 99 1;room 1 99 1", 0);
        whyIs(UP, 0, "room 1 99 1;room 1 99 1", 0, 1);
        whyIs(UP, 1, "room 1 99 1;room 1 99 1", 0, 1);
    }

    private static void whyRoof() {
        Check.sentence("it is a ROOF and something is up");
        String text = "roof 1 99 1;room 1 99 1;roof 1 99 1";
        whyIs(0, 0, text);
        whyIs(0, 2, text);
        whyIs(PLACE, 0, text, 1);
        whyIs(PLACE, 2, text, 0);
        whyIs(0, 1, text, 0);
        whyIs(PLACE, 2, text, 0, 1);
    }

    private static void whyCellar() {
        Check.sentence("a CELLAR is up");
        String text = "cellar 1 99 1;room 1 99 1;cellar 1 99 1;bells 1 99 1;roof 1 99 1;room 1 99 1";
        whyIs(0, 0, text);
        whyIs(0, 0, text, 1);
        whyIs(0, 0, text, 1, 5, 3);
        for (int s = 1; s <= 5; s++) {
            whyIs(PLACE, s, text, 0);
        }
        whyIs(PLACE, 5, text, 1, 0);
        whyIs(PLACE, 2, text, 1, 0);
        whyIs(0, 5, text, 1);
    }

    private static void whyBells() {
        Check.sentence("it is BELLS and three STOREYS or more are up");
        String text = "bells 1 99 1;room 1 99 1;room 1 99 1;room 1 99 1;room 1 99 1;bells 1 99 1";
        whyIs(0, 0, text);
        whyIs(0, 0, text, 1);
        whyIs(0, 0, text, 1, 2);
        whyIs(PLACE, 0, text, 1, 2, 3);
        whyIs(PLACE, 0, text, 1, 2, 3, 4);
        whyIs(0, 4, text, 1, 2, 3);
        whyIs(0, 0, text, 1, 5);
        whyIs(PLACE, 0, text, 1, 5, 2);
    }

    private static void whyPair() {
        Check.sentence("or by a PAIR another one must be above it that is not up");
        String text = "room 1 99 1;room 1 99 1;room 1 99 1;above 0 2;above 1 2";
        whyIs(0, 0, text);
        whyIs(0, 1, text);
        whyIs(PLACE, 2, text);
        whyIs(PLACE, 2, text, 0);
        whyIs(PLACE, 2, text, 1);
        whyIs(0, 2, text, 1, 0);
        whyIs(0, 2, "room 1 99 1;room 1 99 1;room 1 99 1");
        whyIs(PLACE, 0, "room 1 99 1;room 1 99 1;above 0 1;above 1 0");
        whyIs(PLACE, 1, "room 1 99 1;room 1 99 1;above 0 1;above 1 0");
    }

    private static void whyStrength() {
        Check.sentence("3 STRENGTH: it is below LOAD of all that is up");
        whyIs(0, 1, "room 20 0 1;room 1 20 1", 0);
        whyIs(STRENGTH, 1, "room 20 0 1;room 1 19 1", 0);
        whyIs(0, 1, "room 20 0 1;room 1 25 1;folk 0 5", 0);
        whyIs(STRENGTH, 1, "room 20 0 1;room 1 24 1;folk 0 5", 0);
        whyIs(0, 1, "room 20 0 1;room 99 20 1;folk 1 99", 0);
        whyIs(0, 2, "room 20 0 1;room 9 99 1;room 1 29 1", 0, 1);
        whyIs(STRENGTH, 2, "room 20 0 1;room 9 99 1;room 1 28 1", 0, 1);
        whyIs(STRENGTH, 1, "room 1 0 1;room 1 0 1", 0);
    }

    private static void whyJacks() {
        Check.sentence("4 JACKS: they bear less than that LOAD");
        whyIs(0, 1, "room 20 0 1;room 1 99 1;jacks 20", 0);
        whyIs(JACKS, 1, "room 20 0 1;room 1 99 1;jacks 19", 0);
        whyIs(0, 1, "room 20 0 1;room 99 99 1;folk 0 5;folk 1 99;jacks 25", 0);
        whyIs(JACKS, 1, "room 20 0 1;room 99 99 1;folk 0 5;folk 1 99;jacks 24", 0);
        whyIs(JACKS, 1, "room 1 0 1;room 1 99 1;jacks 0", 0);
    }

    private static void whyWind() {
        Check.sentence("5 WIND of the DAY is 9.");
        whyIs(0, 0, "room 1 9 1;wind 0 0 8");
        whyIs(WIND, 0, "room 1 9 1;wind 0 0 9");
        whyIs(0, 0, "room 1 9 1;wind 1 39 9");
        whyIs(WIND, 1, "room 1 9 1;room 1 9 1;wind 1 1 9", 0);
        whyIs(0, 1, "room 1 9 1;room 1 9 1;wind 2 39 9", 0);
        TopDownTowers x = with("room 1 9 1;wind 39 39 9");
        x.rest(38);
        Check.due("DAY 38", x.why(0), 0);
        x.rest(1);
        Check.due("DAY 39", x.why(0), WIND);
        Check.due("DAY 39", x.lift(0), NOT);
        x.rest(1);
        Check.due("DAY 40", x.why(0), 0);
        Check.due("DAY 40", x.lift(0), 1);
    }

    private static void whyTheFirst() {
        Check.sentence("WHY it can not be, the first of");
        String text = "room 50 40 1;roof 1 0 1;room 1 0 1;room 1 99 1;jacks 40;wind 1 1 9";
        whyIs(UP, 0, text, 0);
        whyIs(PLACE, 1, text, 0);
        whyIs(STRENGTH, 2, text, 0);
        whyIs(JACKS, 3, text, 0);
        whyIs(WIND, 3, text.replace("jacks 40", "jacks 50"), 0);
        whyIs(0, 3, text.replace("jacks 40", "jacks 50").replace("wind 1 1", "wind 2 2"), 0);
        whyIs(UP, 0, "cellar 50 0 1;jacks 0;wind 1 1 9", 0);
    }

    private static void liftOfNothing() {
        Check.sentence("(The first one is set by a LIFT of nothing.)");
        whyIs(0, 0, "room 99 0 1;folk 0 99;jacks 0");
        whyIs(0, 0, "roof 99 0 1;jacks 0");
        whyIs(0, 0, "cellar 99 0 1;jacks 0");
        whyIs(0, 0, "bells 99 0 1;jacks 0");
        whyIs(WIND, 0, "room 99 0 1;jacks 0;wind 0 0 9");
    }

    private static void why() {
        Check.sentence("WHY a STOREY can not be set today (0: it can be). UNKNOWN.");
        Supplier<TopDownTowers> two = () -> with("room 1 99 1;room 1 99 1", 0);
        Twins.unchanged("why(1)", two, x -> x.why(1), 0);
        Twins.unchanged("why(2)", two, x -> x.why(2), UNKNOWN);
        for (int none : NO_STOREYS) {
            Twins.unchanged("why(" + none + ")", two, x -> x.why(none), UNKNOWN);
        }
        Twins.unchanged("why(0) of none", TopDownTowers::new, x -> x.why(0), UNKNOWN);
    }

    private static void lift() {
        Check.sentence("A STOREY is set below: how many are up. UNKNOWN; NOT: it can not be; FULL: above DAY 9999.");
        Supplier<TopDownTowers> two = () -> with("room 1 99 1;room 1 99 1", 0);
        Check.due("lift(1)", two.get().lift(1), 2);
        Twins.unchanged("lift(2)", two, x -> x.lift(2), UNKNOWN);
        Twins.unchanged("lift(0)", two, x -> x.lift(0), NOT);
        for (int none : NO_STOREYS) {
            Twins.unchanged("lift(" + none + ")", two, x -> x.lift(none), UNKNOWN);
        }
        TopDownTowers eight = eightUp();
        Check.due("all eight are up", eight.count(4), 8);
        Twins.unchanged("a ninth LIFT", DaysEdgesTest::eightUp, x -> x.lift(7), NOT);
    }

    private static TopDownTowers eightUp() {
        String room = "room 1 99 1";
        return with(String.join(";", room, room, room, room, room, room, room, room), 7, 6, 5, 4, 3, 2, 1, 0);
    }

    private static TopDownTowers onDay(int day) {
        TopDownTowers x = with("room 1 99 1;room 1 99 1;roof 1 99 1", 0);
        restFor(x, day - 1);
        Check.due("the DAY", x.count(5), day);
        return x;
    }

    private static void lastDay() {
        Check.sentence("FULL: above DAY 9999.");
        TopDownTowers x = onDay(9998);
        Check.due("on DAY 9998", x.lift(1), 2);
        Check.due("DAY 9999 then", x.count(5), 9999);
        Check.due("both are up", x.up(1), 1);
        Twins.unchanged("lift(1) on DAY 9999", () -> onDay(9999), y -> y.lift(1), FULL);
        Twins.unchanged("NOT ahead of FULL", () -> onDay(9999), y -> y.lift(0), NOT);
        Twins.unchanged("NOT ahead of FULL", () -> onDay(9999), y -> y.lift(2), NOT);
        Twins.unchanged("UNKNOWN ahead of FULL", () -> onDay(9999), y -> y.lift(3), UNKNOWN);
        Twins.unchanged("WHY on DAY 9999", () -> onDay(9999), y -> y.why(1), 0);
    }

    private static void rest() {
        Check.sentence("One waits n DAYS (1 .. 99): the DAY then. OUTSIDE; FULL.");
        Check.due("rest(1)", onDay(5).rest(1), 6);
        Check.due("rest(99)", onDay(5).rest(99), 104);
        for (int n : new int[] {0, -1, 100, Integer.MIN_VALUE, Integer.MAX_VALUE}) {
            Twins.unchanged("rest(" + n + ")", () -> onDay(5), x -> x.rest(n), OUTSIDE);
            Twins.unchanged("OUTSIDE ahead of FULL", () -> onDay(9999), x -> x.rest(n), OUTSIDE);
        }
        TopDownTowers x = onDay(5);
        x.rest(7);
        Check.due("count(5)", x.count(5), 12);
        Check.due("what is up stays", x.count(4), 1);
    }

    private static void restToTheLastDay() {
        Check.sentence("One waits n DAYS (1 .. 99): the DAY then. OUTSIDE; FULL.");
        Check.due("to DAY 9999 by 1", onDay(9998).rest(1), 9999);
        Check.due("to DAY 9999 by 99", onDay(9900).rest(99), 9999);
        Twins.unchanged("to DAY 10000 by 1", () -> onDay(9999), x -> x.rest(1), FULL);
        Twins.unchanged("to DAY 10000 by 2", () -> onDay(9998), x -> x.rest(2), FULL);
        Twins.unchanged("to DAY 10000 by 99", () -> onDay(9901), x -> x.rest(99), FULL);
        Twins.unchanged("far above", () -> onDay(9999), x -> x.rest(99), FULL);
    }

    private static void up() {
        Check.sentence("The i-th STOREY that was set (from 0, the topmost); NONE: there are not so many. OUTSIDE: i below 0.");
        Supplier<TopDownTowers> two = () -> with("room 1 99 1;room 1 99 1;room 1 99 1", 2, 0);
        Twins.unchanged("up(0)", two, x -> x.up(0), 2);
        Twins.unchanged("up(1)", two, x -> x.up(1), 0);
        Twins.unchanged("up(2)", two, x -> x.up(2), NONE);
        Twins.unchanged("up(8)", two, x -> x.up(8), NONE);
        Twins.unchanged("up, far", two, x -> x.up(Integer.MAX_VALUE), NONE);
        Twins.unchanged("up(-1)", two, x -> x.up(-1), OUTSIDE);
        Twins.unchanged("up, far below", two, x -> x.up(Integer.MIN_VALUE), OUTSIDE);
        Twins.unchanged("up(0) of nothing", TopDownTowers::new, x -> x.up(0), NONE);
        Twins.unchanged("up(-1) of nothing", TopDownTowers::new, x -> x.up(-1), OUTSIDE);
        Twins.unchanged("up(7) of eight", DaysEdgesTest::eightUp, x -> x.up(7), 0);
        Twins.unchanged("up(8) of eight", DaysEdgesTest::eightUp, x -> x.up(8), NONE);
    }

    private static void floor() {
        Check.sentence("How high the floor of a STOREY is now (HEIGHTS of all below it); NONE: it is not up. UNKNOWN.");
        String text = "room 1 99 9;room 1 99 2;room 1 99 4;room 1 99 1";
        Supplier<TopDownTowers> three = () -> with(text, 2, 0, 1);
        Twins.unchanged("the topmost", three, x -> x.floor(2), 11);
        Twins.unchanged("the middle one", three, x -> x.floor(0), 2);
        Twins.unchanged("the lowest", three, x -> x.floor(1), 0);
        Twins.unchanged("not up", three, x -> x.floor(3), NONE);
        Twins.unchanged("no such", three, x -> x.floor(4), UNKNOWN);
        for (int none : NO_STOREYS) {
            Twins.unchanged("floor(" + none + ")", three, x -> x.floor(none), UNKNOWN);
        }
        Twins.unchanged("one alone", () -> with(text, 0), x -> x.floor(0), 0);
        Twins.unchanged("nothing is up", () -> with(text), x -> x.floor(0), NONE);
        Twins.unchanged("none told", TopDownTowers::new, x -> x.floor(0), UNKNOWN);
    }

    private static void keep() {
        Check.sentence("What is up, the DAY are kept (k 0, 1): how many are up. UNKNOWN: no such k.");
        Supplier<TopDownTowers> one = () -> with("room 1 99 1;room 1 99 1", 1);
        Check.due("keep(0)", one.get().keep(0), 1);
        Check.due("keep(1)", one.get().keep(1), 1);
        Check.due("of nothing", new TopDownTowers().keep(0), 0);
        for (int k : new int[] {-1, 2, Integer.MIN_VALUE, Integer.MAX_VALUE}) {
            Twins.unchanged("keep(" + k + ")", one, x -> x.keep(k), UNKNOWN);
        }
        TopDownTowers x = eightUp();
        Check.due("of eight", x.keep(1), 8);
        Check.due("the other one is not kept", x.back(0), NOT);
        Check.due("what is up stays", x.count(4), 8);
    }

    private static TopDownTowers keptAndSeen() {
        TopDownTowers x = with("room 9 99 1;room 9 99 1;room 9 99 1", 2);
        x.rest(3);
        x.keep(1);
        x.lift(0);
        x.seen(1, 1);
        x.row(1);
        return x;
    }

    private static void back() {
        Check.sentence("They are as they were kept, nothing is SEEN: how many are up. UNKNOWN; "
            + "NOT: nothing was kept since the last text.");
        for (int k : new int[] {-1, 2, Integer.MIN_VALUE, Integer.MAX_VALUE}) {
            Twins.unchanged("back(" + k + ")", DaysEdgesTest::keptAndSeen, x -> x.back(k), UNKNOWN);
        }
        Twins.unchanged("the other one", DaysEdgesTest::keptAndSeen, x -> x.back(0), NOT);
        TopDownTowers x = keptAndSeen();
        Check.due("something is SEEN", x.count(10), 1);
        Check.due("back(1)", x.back(1), 1);
        Check.due("nothing is SEEN", x.count(10), 0);
        Check.due("FITS of nothing SEEN", x.fits(2, 0), 99);
        Check.due("what was kept", x.up(0), 2);
        Check.due("no more than that", x.up(1), NONE);
        Check.due("the DAY", x.count(5), 4);
        Check.due("THE ROW is none of them", x.count(9), 1);
        x.lift(1);
        Check.due("again", x.back(1), 1);
        Check.due("as it was kept", x.count(5), 4);
        x.lift(1);
        Check.due("kept over it", x.keep(1), 2);
        Check.due("back to that", x.back(1), 2);
        Check.due("the second", x.up(1), 1);
    }

    private static void bothKept() {
        Check.sentence("They are as they were kept");
        TopDownTowers x = with("room 9 99 1;room 9 99 2;room 9 99 4");
        x.keep(0);
        x.lift(2);
        x.lift(1);
        x.keep(1);
        Check.due("back to nothing", x.back(0), 0);
        x.lift(0);
        x.lift(2);
        x.lift(1);
        x.keep(0);
        Check.due("back to two", x.back(1), 2);
        Check.due("their topmost", x.up(0), 2);
        Check.due("their lowest", x.up(1), 1);
        Check.due("the third is not up", x.floor(0), NONE);
        Check.due("their DAY", x.count(5), 2);
        Check.due("back to three", x.back(0), 3);
        Check.due("their topmost", x.up(0), 0);
        Check.due("their DAY", x.count(5), 3);
    }

    private static void backSinceTheLastText() {
        Check.sentence("NOT: nothing was kept since the last text.");
        TopDownTowers x = new TopDownTowers();
        Check.due("ahead of all texts", x.back(0), NOT);
        Check.due("nothing up", x.keep(0), 0);
        Check.due("kept", x.back(0), 0);
        Check.write(x, "x");
        Check.due("a text with a FAULT", x.site(), NOT);
        Check.due("kept still", x.back(0), 0);
        x.erase();
        Check.tell(x, "room 1 1 1");
        Check.due("behind a text", x.back(0), NOT);
        Check.due("kept behind it", x.keep(1), 0);
        Check.due("not this one", x.back(0), NOT);
        Check.due("but this one", x.back(1), 0);
    }

    private static void calls() {
        Check.sentence("An object is used for at most 512 calls after it has been made");
        TopDownTowers x = eightUp();
        int already = 12 + 1 + 8;
        for (int call = already; call < 511; call++) {
            Check.due("orders", x.orders(-1), 40320);
        }
        Check.due("the 512th", x.tallest(1), 255);
    }
}
