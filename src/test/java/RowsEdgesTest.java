import java.util.function.Supplier;

/** The edges that the document names of THE ROW, of what was SEEN and of counts (promises 22 to 28), on both sides. */
public final class RowsEdgesTest {
    private static final int NONE = -1, UNKNOWN = -2, OUTSIDE = -3, FULL = -5;
    private static final int[] FAR = {Integer.MIN_VALUE, Integer.MAX_VALUE};
    private static final String EIGHT =
        "room 1 9 1;room 1 9 1;room 1 9 1;room 1 9 1;room 1 9 1;room 1 9 1;room 1 9 1;room 1 9 1";
    private static final int[] ALL = {0, 1, 2, 3, 4, 5, 6, 7};

    private RowsEdgesTest() {
    }

    public static void main(String[] args) {
        row();
        rowOfEight();
        burn();
        judge();
        judgedByDays();
        judgedByReasons();
        seen();
        seenEight();
        inchesAndPlaces();
        forget();
        fits();
        fitsCut();
        fitsAtTheEnds();
        fitsOfAll();
        count();
        Check.end("RowsEdgesTest");
    }

    private static TopDownTowers with(String text, int... storeys) {
        TopDownTowers x = Check.towerOf(text);
        for (int i = 0; i < storeys.length; i++) {
            Check.due("lift(" + storeys[i] + ")", x.lift(storeys[i]), i + 1);
        }
        return x;
    }

    private static TopDownTowers rowed(String text, int... storeys) {
        TopDownTowers x = Check.towerOf(text);
        for (int i = 0; i < storeys.length; i++) {
            Check.due("row(" + storeys[i] + ")", x.row(storeys[i]), i + 1);
        }
        return x;
    }

    private static void row() {
        Check.sentence("A STOREY behind THE ROW: how many. UNKNOWN; FULL.");
        Supplier<TopDownTowers> one = () -> rowed("room 1 9 1;room 1 9 1", 1);
        Check.due("row(1)", one.get().row(1), 2);
        Twins.unchanged("row(2)", one, x -> x.row(2), UNKNOWN);
        Twins.unchanged("row(-1)", one, x -> x.row(-1), UNKNOWN);
        for (int far : FAR) {
            Twins.unchanged("row(" + far + ")", one, x -> x.row(far), UNKNOWN);
        }
        Twins.unchanged("none told", TopDownTowers::new, x -> x.row(0), UNKNOWN);
        TopDownTowers x = one.get();
        x.row(0);
        Check.due("nothing is up by it", x.count(4), 0);
        Check.due("no DAY goes by", x.count(5), 0);
    }

    private static void rowOfEight() {
        Check.sentence("THE ROW, 8 at most");
        Supplier<TopDownTowers> seven = () -> rowed(EIGHT, 0, 1, 2, 3, 4, 5, 6);
        Check.due("an eighth", seven.get().row(7), 8);
        Check.due("one that it has, too", seven.get().row(0), 8);
        Supplier<TopDownTowers> eight = () -> rowed(EIGHT, ALL);
        Twins.unchanged("a ninth", eight, x -> x.row(0), FULL);
        Twins.unchanged("UNKNOWN ahead of FULL", eight, x -> x.row(8), UNKNOWN);
        Twins.unchanged("all can be", eight, x -> x.judge(0), NONE);
    }

    private static void burn() {
        Check.sentence("THE ROW is empty: how many it had.");
        TopDownTowers x = rowed(EIGHT, ALL);
        Check.due("eight", x.burn(), 8);
        Check.due("none", x.burn(), 0);
        Check.due("count(9)", x.count(9), 0);
        Check.due("judged", x.judge(0), NONE);
        Check.due("room again", x.row(0), 1);
        Check.due("one", x.burn(), 1);
        Twins.unchanged("burn() of nothing", () -> with(EIGHT, 0), y -> y.burn(), 0);
    }

    private static void judge() {
        Check.sentence("JUDGED: which (what 0; NONE: all can be), WHY (1; 0). OUTSIDE.");
        Supplier<TopDownTowers> can = () -> rowed("room 1 9 1;room 1 9 1", 1, 0);
        Supplier<TopDownTowers> canNot = () -> rowed("room 1 9 1;room 1 9 1", 1, 1);
        Twins.unchanged("all can be", can, x -> x.judge(0), NONE);
        Twins.unchanged("all can be", can, x -> x.judge(1), 0);
        Twins.unchanged("the second can not", canNot, x -> x.judge(0), 1);
        Twins.unchanged("it is up then", canNot, x -> x.judge(1), 1);
        Twins.unchanged("of nothing", () -> with("room 1 9 1"), x -> x.judge(0), NONE);
        Twins.unchanged("of nothing", () -> with("room 1 9 1"), x -> x.judge(1), 0);
        for (int what : new int[] {-1, 2, Integer.MIN_VALUE, Integer.MAX_VALUE}) {
            Twins.unchanged("judge(" + what + ")", can, x -> x.judge(what), OUTSIDE);
            Twins.unchanged("judge(" + what + ")", canNot, x -> x.judge(what), OUTSIDE);
        }
    }

    private static void judgedIs(int which, int why, String text, int... storeys) {
        Twins.unchanged("judge(0) of '" + text + "'", () -> rowed(text, storeys), x -> x.judge(0), which);
        Twins.unchanged("judge(1) of '" + text + "'", () -> rowed(text, storeys), x -> x.judge(1), why);
    }

    private static void judgedByDays() {
        Check.sentence("STOREYS set one by one on DAY 0, 1, .. from nothing on");
        judgedIs(0, 5, EIGHT + ";wind 0 0 9", ALL);
        judgedIs(7, 5, EIGHT + ";wind 7 7 9", ALL);
        judgedIs(NONE, 0, EIGHT + ";wind 8 39 9", ALL);
        judgedIs(NONE, 0, EIGHT + ";wind 0 7 8", ALL);
        TopDownTowers x = rowed("room 1 9 1;room 1 9 1;wind 2 39 9", 0, 1);
        x.lift(0);
        x.rest(4);
        Check.due("whatever is up, whatever the DAY is", x.judge(0), NONE);
    }

    private static void judgedByReasons() {
        Check.sentence("JUDGED: the first that can not be, WHY.");
        judgedIs(1, 1, "room 5 9 1;room 5 9 1", 0, 0, 0);
        judgedIs(1, 2, "room 5 9 1;roof 5 9 1", 0, 1, 1);
        judgedIs(NONE, 0, "room 5 9 1;roof 5 9 1", 1, 0);
        judgedIs(0, 2, "room 5 9 1;room 5 9 1;above 1 0", 0, 1);
        judgedIs(1, 3, "room 5 9 1;room 5 4 1", 0, 1);
        judgedIs(NONE, 0, "room 5 9 1;room 5 5 1", 0, 1);
        judgedIs(1, 4, "room 5 9 1;room 5 9 1;jacks 4", 0, 1);
        judgedIs(NONE, 0, "room 5 9 1;room 5 9 1;jacks 5", 0, 1);
        judgedIs(3, 2, "room 1 9 1;room 1 9 1;room 1 9 1;bells 1 9 1", 0, 1, 2, 3);
        judgedIs(NONE, 0, "room 1 9 1;room 1 9 1;room 1 9 1;bells 1 9 1", 0, 1, 3, 2);
        judgedIs(2, 2, "room 1 9 1;cellar 1 9 1;room 1 9 1", 0, 1, 2);
    }

    private static void seen() {
        Check.sentence("SEEN: how many. OUTSIDE: i (0 .. how many are up, less 1), g; FULL.");
        Supplier<TopDownTowers> two = () -> with("room 10 99 1;room 10 99 1;room 10 99 1", 2, 0);
        Check.due("i 0", two.get().seen(0, 0), 1);
        Check.due("i 1", two.get().seen(1, 0), 1);
        for (int i : new int[] {-1, 2, 8, Integer.MIN_VALUE, Integer.MAX_VALUE}) {
            Twins.unchanged("seen(" + i + ", 0)", two, x -> x.seen(i, 0), OUTSIDE);
        }
        Check.due("g 0", two.get().seen(0, 0), 1);
        Check.due("g 999", two.get().seen(0, 999), 1);
        for (int g : new int[] {-1, 1000, Integer.MIN_VALUE, Integer.MAX_VALUE}) {
            Twins.unchanged("seen(0, " + g + ")", two, x -> x.seen(0, g), OUTSIDE);
        }
        Twins.unchanged("nothing is up", () -> with("room 1 9 1"), x -> x.seen(0, 0), OUTSIDE);
        Supplier<TopDownTowers> eight = () -> with(EIGHT, ALL);
        Check.due("i 7", eight.get().seen(7, 0), 1);
        Twins.unchanged("i 8", eight, x -> x.seen(8, 0), OUTSIDE);
    }

    private static TopDownTowers seenTimes(int many) {
        TopDownTowers x = with("room 10 99 1;room 10 99 1", 0, 1);
        for (int i = 1; i <= many; i++) {
            Check.due("seen(1, 1)", x.seen(1, 1), i);
        }
        return x;
    }

    private static void seenEight() {
        Check.sentence("SEEN, 8 at most");
        Check.due("an eighth", seenTimes(7).seen(1, 1), 8);
        Twins.unchanged("a ninth", () -> seenTimes(8), x -> x.seen(1, 1), FULL);
        Twins.unchanged("a ninth that would not fit", () -> seenTimes(8), x -> x.seen(1, 999), FULL);
        Twins.unchanged("OUTSIDE ahead of FULL", () -> seenTimes(8), x -> x.seen(2, 1), OUTSIDE);
        Twins.unchanged("OUTSIDE ahead of FULL", () -> seenTimes(8), x -> x.seen(1, 1000), OUTSIDE);
        TopDownTowers x = seenTimes(8);
        Check.due("eight", x.count(10), 8);
        x.forget();
        Check.due("room again", x.seen(1, 1), 1);
    }

    private static void fitsAre(String call, TopDownTowers x, int storey, int many, int least, int greatest) {
        Check.due(call + ", how many", x.fits(storey, 0), many);
        Check.due(call + ", the least", x.fits(storey, 1), least);
        Check.due(call + ", the greatest", x.fits(storey, 2), greatest);
    }

    private static TopDownTowers seenOnce(String text, int i, int g, int... storeys) {
        TopDownTowers x = with(text, storeys);
        Check.due("seen(" + i + ", " + g + ")", x.seen(i, g), 1);
        return x;
    }

    private static void inchesAndPlaces() {
        Check.sentence("at the LIFT by which the i-th STOREY of what is up was set, JACKS gave g inches (0 .. 999)");
        String text = "room 30 99 1;room 40 99 1;room 50 99 1";
        fitsAre("the LIFT of nothing", seenOnce(text, 0, 0, 0, 1, 2), 0, 99, 1, 99);
        fitsAre("the LIFT of nothing, not so", seenOnce(text, 0, 1, 0, 1, 2), 0, 0, NONE, NONE);
        fitsAre("the LIFT of 0", seenOnce(text, 1, 3, 0, 1, 2), 0, 10, 30, 39);
        fitsAre("the LIFT of 0, 1 not in it", seenOnce(text, 1, 3, 0, 1, 2), 1, 99, 1, 99);
        fitsAre("the LIFT of 0 and 1", seenOnce(text, 2, 7, 0, 1, 2), 1, 10, 40, 49);
        fitsAre("the LIFT of 0 and 1, 2 not in it", seenOnce(text, 2, 7, 0, 1, 2), 2, 99, 1, 99);
        fitsAre("so far it can not have given", seenOnce(text, 2, 999, 0, 1, 2), 1, 0, NONE, NONE);
    }

    private static void forget() {
        Check.sentence("SEEN is nothing: how many there were.");
        TopDownTowers x = seenTimes(8);
        Check.due("eight", x.forget(), 8);
        Check.due("none", x.forget(), 0);
        Check.due("count(10)", x.count(10), 0);
        Check.due("FITS of nothing SEEN", x.fits(0, 0), 99);
        Check.due("one", seenTimes(1).forget(), 1);
        Twins.unchanged("forget() of nothing", () -> seenTimes(0), y -> y.forget(), 0);
    }

    private static void fits() {
        Check.sentence("FITS of a STOREY: how many (what 0), the least (1), the greatest (2; NONE each, if there is none). "
            + "UNKNOWN; OUTSIDE.");
        Supplier<TopDownTowers> some = () -> seenOnce("room 30 99 1;room 40 99 1", 1, 3, 0, 1);
        Supplier<TopDownTowers> none = () -> seenOnce("room 30 99 1;room 40 99 1", 1, 99, 0, 1);
        int[] due = {10, 30, 39};
        int[] dueNone = {0, NONE, NONE};
        for (int what = 0; what <= 2; what++) {
            int asked = what;
            Twins.unchanged("fits(0, " + what + ")", some, x -> x.fits(0, asked), due[what]);
            Twins.unchanged("fits(0, " + what + ") of none", none, x -> x.fits(0, asked), dueNone[what]);
        }
        for (int what : new int[] {-1, 3, Integer.MIN_VALUE, Integer.MAX_VALUE}) {
            Twins.unchanged("fits(1, " + what + ")", some, x -> x.fits(1, what), OUTSIDE);
            Twins.unchanged("fits(2, " + what + ")", some, x -> x.fits(2, what), UNKNOWN);
        }
        for (int storey : new int[] {-1, 2, Integer.MIN_VALUE, Integer.MAX_VALUE}) {
            Twins.unchanged("fits(" + storey + ", 0)", some, x -> x.fits(storey, 0), UNKNOWN);
        }
        Twins.unchanged("none told", TopDownTowers::new, x -> x.fits(0, 0), UNKNOWN);
    }

    /** One of this WEIGHT is lifted, which is known: so it is told whether g inches are its LOAD by SOFT. */
    private static void givesInches(boolean is, int weight, int soft, int g) {
        TopDownTowers x = seenOnce("room " + weight + " 99 1;room 1 99 1;soft " + soft, 1, g, 0, 1);
        String call = weight + " pounds by " + soft + " give " + g;
        fitsAre(call, x, 1, is ? 99 : 0, is ? 1 : NONE, is ? 99 : NONE);
    }

    private static void fitsCut() {
        Check.sentence("LOAD by SOFT, cut.");
        givesInches(false, 19, 10, 2);
        givesInches(true, 20, 10, 2);
        givesInches(true, 29, 10, 2);
        givesInches(false, 30, 10, 2);
        givesInches(true, 9, 10, 0);
        givesInches(false, 10, 10, 0);
        givesInches(true, 98, 99, 0);
        givesInches(true, 99, 99, 1);
        givesInches(false, 98, 99, 1);
        givesInches(true, 42, 1, 42);
        givesInches(false, 42, 1, 41);
        givesInches(false, 42, 1, 43);
        TopDownTowers folk = seenOnce("room 19 99 1;room 1 99 1;folk 0 1", 1, 2, 0, 1);
        fitsAre("FOLK are in the LOAD", folk, 1, 99, 1, 99);
        TopDownTowers noFolk = seenOnce("room 19 99 1;room 1 99 1;folk 1 1", 1, 2, 0, 1);
        fitsAre("FOLK of another one are not", noFolk, 1, 0, NONE, NONE);
    }

    private static void fitsAtTheEnds() {
        Check.sentence("FITS: WEIGHTS (1 .. 99) of one STOREY, all else as told, by which all is so");
        String two = "room 30 99 1;room 40 99 1;soft ";
        fitsAre("nothing SEEN", with(two + 10), 0, 99, 1, 99);
        fitsAre("not below 1", seenOnce(two + 10, 1, 0, 0, 1), 0, 9, 1, 9);
        fitsAre("not above 99", seenOnce(two + 10, 1, 9, 0, 1), 0, 10, 90, 99);
        fitsAre("all above 99", seenOnce(two + 10, 1, 10, 0, 1), 0, 0, NONE, NONE);
        fitsAre("all below 1", seenOnce(two + 1, 1, 0, 0, 1), 0, 0, NONE, NONE);
        fitsAre("1 alone", seenOnce(two + 1, 1, 1, 0, 1), 0, 1, 1, 1);
        fitsAre("99 alone", seenOnce(two + 1, 1, 99, 0, 1), 0, 1, 99, 99);
        fitsAre("99 alone, by 99", seenOnce(two + 99, 1, 1, 0, 1), 0, 1, 99, 99);
        fitsAre("all but 99", seenOnce(two + 99, 1, 0, 0, 1), 0, 98, 1, 98);
        String folk = ";folk 0 8";
        fitsAre("with FOLK", seenOnce(two + 10 + folk, 1, 0, 0, 1), 0, 1, 1, 1);
        fitsAre("with FOLK", seenOnce(two + 10 + folk, 1, 10, 0, 1), 0, 8, 92, 99);
        fitsAre("FOLK alone are more", seenOnce(two + 8 + folk, 1, 0, 0, 1), 0, 0, NONE, NONE);
    }

    private static void fitsOfAll() {
        Check.sentence("by which all is so: how many, the least, the greatest.");
        TopDownTowers x = with("room 30 99 1;room 45 99 1;room 1 99 1", 0, 1, 2);
        x.seen(1, 3);
        fitsAre("by one", x, 0, 10, 30, 39);
        x.seen(2, 7);
        fitsAre("by both, cut from above", x, 0, 5, 30, 34);
        x.forget();
        x.seen(2, 8);
        x.seen(1, 3);
        fitsAre("by both, cut from below", x, 0, 5, 35, 39);
        x.seen(1, 3);
        fitsAre("twice the same", x, 0, 5, 35, 39);
        x.seen(1, 4);
        fitsAre("one speaks against another", x, 0, 0, NONE, NONE);
        x.forget();
        x.seen(2, 8);
        fitsAre("of the other", x, 1, 10, 50, 59);
        x.seen(1, 4);
        fitsAre("by one that is not of it, not so", x, 1, 0, NONE, NONE);
    }

    private static TopDownTowers counted() {
        TopDownTowers x = Check.towerOf("room 20 99 3;room 15 99 4;folk 0 7;soft 4;jacks 66;above 0 1;wind 3 3 6");
        x.rest(1);
        x.lift(0);
        x.lift(1);
        x.row(1);
        for (int i = 0; i < 5; i++) {
            x.seen(1, 6);
        }
        Check.write(x, "abcdefghi");
        return x;
    }

    private static void count() {
        Check.sentence("0 STOREYS, 1 JACKS bear, 2 SOFT, 3 PAIRS, 4 how many are up, 5 the DAY, 6 HEIGHT of all that is up, "
            + "7 LOAD of it, 8 WIND today, 9 THE ROW, 10 SEEN, 11 bytes of THE TEXT. OUTSIDE.");
        int[] due = {2, 66, 4, 1, 2, 3, 7, 42, 6, 1, 5, 9};
        int[] dueFirst = {0, 500, 10, 0, 0, 0, 0, 0, 0, 0, 0, 0};
        for (int what = 0; what <= 11; what++) {
            int asked = what;
            Twins.unchanged("count(" + what + ")", RowsEdgesTest::counted, x -> x.count(asked), due[what]);
            Twins.unchanged("count(" + what + ") at first", TopDownTowers::new, x -> x.count(asked), dueFirst[what]);
        }
        for (int what : new int[] {-1, 12, Integer.MIN_VALUE, Integer.MAX_VALUE}) {
            Twins.unchanged("count(" + what + ")", RowsEdgesTest::counted, x -> x.count(what), OUTSIDE);
        }
    }
}
