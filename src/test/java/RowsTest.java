/** Promises 22 to 28: THE ROW, JUDGED, SEEN, FITS, counts. */
public final class RowsTest {
    private static final int NONE = -1, UNKNOWN = -2, OUTSIDE = -3, FULL = -5;

    private RowsTest() {
    }

    public static void main(String[] args) {
        rowAndBurn();
        judgeByEachReason();
        judgeByDays();
        seenAndForget();
        fitsOfWeights();
        fitsOfOthers();
        fitsByFolkAndSoft();
        counts();
        Check.end("RowsTest");
    }

    private static void rowAndBurn() {
        TopDownTowers x = Check.towerOf("room 1 99 1;room 1 99 1");
        Check.due("23: nothing", x.burn(), 0);
        Check.due("22: no such", x.row(2), UNKNOWN);
        Check.due("22: no such", x.row(-1), UNKNOWN);
        for (int i = 1; i <= 8; i++) {
            Check.due("22: many", x.row(1), i);
        }
        Check.due("22: a ninth", x.row(1), FULL);
        Check.due("22: UNKNOWN first", x.row(2), UNKNOWN);
        Check.due("28: THE ROW", x.count(9), 8);
        Check.due("23: eight", x.burn(), 8);
        Check.due("23: none then", x.burn(), 0);
        Check.due("28: THE ROW", x.count(9), 0);
        Check.due("22: again", x.row(0), 1);
        Check.due("22: nothing is up by it", x.count(4), 0);
    }

    private static void judged(String text, int[] row, int which, int why) {
        TopDownTowers x = Check.towerOf(text);
        for (int storey : row) {
            x.row(storey);
        }
        Check.due("24: judge(0) of " + text, x.judge(0), which);
        Check.due("24: judge(1) of " + text, x.judge(1), why);
        Check.due("24: what 2", x.judge(2), OUTSIDE);
        Check.due("24: what -1", x.judge(-1), OUTSIDE);
        Check.due("24: THE ROW stays", x.count(9), row.length);
    }

    private static void judgeByEachReason() {
        String three = "room 10 99 1;room 10 9 1;roof 10 99 1";
        judged(three, new int[0], NONE, 0);
        judged(three, new int[] {2, 0}, NONE, 0);
        judged(three, new int[] {0, 0}, 1, 1);
        judged(three, new int[] {0, 2}, 1, 2);
        judged(three, new int[] {0, 1}, 1, 3);
        judged(three, new int[] {2, 1, 1}, 1, 3);
        judged(three + ";jacks 9", new int[] {1, 0}, 1, 4);
        judged(three + ";wind 1 1 9", new int[] {1, 0}, 1, 5);
        judged(three + ";wind 0 0 9", new int[] {1, 0}, 0, 5);
        judged(three + ";above 1 0", new int[] {0}, 0, 2);
        judged(three + ";above 1 0", new int[] {1, 0}, NONE, 0);
        judged(three + ";wind 2 2 9", new int[] {1, 0}, NONE, 0);
    }

    private static void judgeByDays() {
        TopDownTowers x = Check.towerOf("room 10 99 1;room 10 99 1;wind 1 1 9");
        x.rest(5);
        x.lift(0);
        x.row(0);
        Check.due("24: from nothing on", x.judge(0), NONE);
        x.row(1);
        Check.due("24: on DAY 1, not today", x.judge(1), 5);
        Check.due("24: which", x.judge(0), 1);
        x.lift(1);
        Check.due("24: which still", x.judge(0), 1);
    }

    private static void seenAndForget() {
        TopDownTowers x = Check.towerOf("room 10 99 1;room 10 99 1");
        Check.due("25: nothing is up", x.seen(0, 0), OUTSIDE);
        x.lift(0);
        Check.due("25: i above", x.seen(1, 0), OUTSIDE);
        Check.due("25: i below", x.seen(-1, 0), OUTSIDE);
        Check.due("25: g below", x.seen(0, -1), OUTSIDE);
        Check.due("25: g above", x.seen(0, 1000), OUTSIDE);
        Check.due("26: nothing", x.forget(), 0);
        for (int i = 1; i <= 8; i++) {
            Check.due("25: many", x.seen(0, 999), i);
        }
        Check.due("25: a ninth", x.seen(0, 999), FULL);
        Check.due("25: OUTSIDE first", x.seen(0, 1000), OUTSIDE);
        Check.due("28: SEEN", x.count(10), 8);
        Check.due("26: eight", x.forget(), 8);
        Check.due("26: then none", x.forget(), 0);
        x.lift(1);
        Check.due("25: the second", x.seen(1, 1), 1);
        Check.due("28: SEEN", x.count(10), 1);
    }

    private static void fits(TopDownTowers x, int storey, int many, int least, int greatest) {
        Check.due("27: fits(" + storey + ", 0)", x.fits(storey, 0), many);
        Check.due("27: fits(" + storey + ", 1)", x.fits(storey, 1), least);
        Check.due("27: fits(" + storey + ", 2)", x.fits(storey, 2), greatest);
    }

    private static void fitsOfWeights() {
        TopDownTowers x = Check.towerOf("room 20 99 1;room 15 99 1;room 9 99 1");
        fits(x, 0, 99, 1, 99);
        x.lift(0);
        x.lift(1);
        x.lift(2);
        x.seen(1, 2);
        fits(x, 0, 10, 20, 29);
        x.seen(2, 3);
        fits(x, 0, 5, 20, 24);
        fits(x, 1, 10, 10, 19);
        x.forget();
        x.seen(1, 0);
        fits(x, 0, 9, 1, 9);
        x.forget();
        x.seen(1, 9);
        fits(x, 0, 10, 90, 99);
        x.forget();
        x.seen(1, 10);
        fits(x, 0, 0, NONE, NONE);
        Check.due("27: what 3", x.fits(0, 3), OUTSIDE);
        Check.due("27: what -1", x.fits(0, -1), OUTSIDE);
        Check.due("27: UNKNOWN first", x.fits(3, 3), UNKNOWN);
        Check.due("27: no such", x.fits(-1, 0), UNKNOWN);
    }

    private static void fitsOfOthers() {
        TopDownTowers x = Check.towerOf("room 20 99 1;room 15 99 1;room 9 99 1;room 1 99 1");
        x.lift(0);
        x.lift(1);
        x.lift(2);
        x.seen(0, 0);
        x.seen(1, 2);
        fits(x, 1, 99, 1, 99);
        fits(x, 3, 99, 1, 99);
        x.seen(0, 1);
        fits(x, 0, 0, NONE, NONE);
        fits(x, 3, 0, NONE, NONE);
        x.forget();
        x.seen(1, 1);
        fits(x, 1, 0, NONE, NONE);
        fits(x, 0, 10, 10, 19);
        x.lift(3);
        fits(x, 0, 10, 10, 19);
        Check.tell(x, "site;room 19 99 1;room 1 99 1;room 1 99 1");
        x.lift(0);
        x.lift(1);
        x.seen(1, 1);
        fits(x, 2, 99, 1, 99);
        x.forget();
        x.seen(1, 2);
        fits(x, 2, 0, NONE, NONE);
        x.forget();
        x.seen(1, 0);
        fits(x, 2, 0, NONE, NONE);
        Check.tell(x, "folk 0 1");
        x.lift(0);
        x.lift(1);
        x.seen(1, 1);
        fits(x, 2, 0, NONE, NONE);
        x.forget();
        x.seen(1, 2);
        fits(x, 2, 99, 1, 99);
    }

    private static void fitsByFolkAndSoft() {
        TopDownTowers x = Check.towerOf("room 20 99 1;room 15 99 1;folk 0 7;soft 4");
        x.lift(0);
        x.lift(1);
        x.seen(1, 6);
        fits(x, 0, 4, 17, 20);
        x.forget();
        x.seen(1, 1);
        fits(x, 0, 0, NONE, NONE);
        x.forget();
        x.seen(1, 2);
        fits(x, 0, 4, 1, 4);
        Check.tell(x, "soft 1");
        x.lift(0);
        x.lift(1);
        x.seen(1, 50);
        fits(x, 0, 1, 43, 43);
        Check.tell(x, "soft 99");
        x.lift(0);
        x.lift(1);
        x.seen(1, 0);
        fits(x, 0, 91, 1, 91);
        x.forget();
        x.seen(1, 999);
        fits(x, 0, 0, NONE, NONE);
    }

    private static void counts() {
        TopDownTowers x = Check.towerOf("room 20 99 3;room 15 99 4;folk 0 7;soft 4;jacks 66;above 0 1;wind 2 2 6");
        x.lift(0);
        x.lift(1);
        x.row(1);
        x.seen(1, 6);
        x.seen(1, 6);
        Check.write(x, "abc");
        int[] due = {2, 66, 4, 1, 2, 2, 7, 42, 6, 1, 2, 3};
        for (int what = 0; what < due.length; what++) {
            Check.due("28: count(" + what + ")", x.count(what), due[what]);
        }
        Check.due("28: what 12", x.count(12), OUTSIDE);
        Check.due("28: what -1", x.count(-1), OUTSIDE);
        Check.due("28: far", x.count(Integer.MIN_VALUE), OUTSIDE);
        x.rest(99);
        Check.due("28: WIND behind DAY 39", x.count(8), 0);
    }
}
