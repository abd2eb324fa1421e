/** Promises 8 to 14: lifts, waiting, what is up, floors, a tower kept. */
public final class DaysTest {
    private static final int NONE = -1, UNKNOWN = -2, OUTSIDE = -3, NOT = -4, FULL = -5;

    private DaysTest() {
    }

    public static void main(String[] args) {
        whyPlace();
        whyPairs();
        whyStrengthAndJacks();
        whyWind();
        whyInOrder();
        liftSets();
        liftRefuses();
        restWaits();
        upAndFloor();
        keepAndBack();
        keepTwoTowers();
        Check.end("DaysTest");
    }

    private static void whyPlace() {
        TopDownTowers x = Check.towerOf(
            "room 1 99 1;roof 1 99 1;cellar 1 99 1;bells 1 99 1;room 1 99 1;room 1 99 1;room 1 99 1");
        for (int s = 0; s < 7; s++) {
            Check.due("8: first, why(" + s + ")", x.why(s), 0);
        }
        x.lift(0);
        Check.due("8: it is up", x.why(0), 1);
        Check.due("8: a ROOF below something", x.why(1), 2);
        Check.due("8: a CELLAR below", x.why(2), 0);
        Check.due("8: BELLS below one", x.why(3), 0);
        x.lift(4);
        Check.due("8: BELLS below two", x.why(3), 0);
        x.keep(0);
        x.lift(5);
        Check.due("8: BELLS below three", x.why(3), 2);
        x.lift(6);
        Check.due("8: BELLS below four", x.why(3), 2);
        Check.due("8: a CELLAR below four", x.why(2), 0);
        x.back(0);
        x.lift(3);
        Check.due("8: below BELLS", x.why(5), 0);
        x.lift(2);
        Check.due("8: below a CELLAR", x.why(5), 2);
        Check.due("8: the CELLAR itself is up", x.why(2), 1);
        TopDownTowers y = Check.towerOf("roof 1 9 1;room 1 9 1;roof 1 9 1");
        y.lift(0);
        Check.due("8: below a ROOF", y.why(1), 0);
        Check.due("8: a second ROOF", y.why(2), 2);
        Check.due("8: no such", y.why(3), UNKNOWN);
        Check.due("8: no such", y.why(-1), UNKNOWN);
    }

    private static void whyPairs() {
        TopDownTowers x = Check.towerOf("room 1 99 1;room 1 99 1;room 1 99 1;above 0 2;above 1 2");
        Check.due("8: 2 waits for both", x.why(2), 2);
        Check.due("8: 0 waits for none", x.why(0), 0);
        x.lift(1);
        Check.due("8: 2 waits for 0", x.why(2), 2);
        x.lift(0);
        Check.due("8: 2 waits no more", x.why(2), 0);
    }

    private static void whyStrengthAndJacks() {
        TopDownTowers x = Check.towerOf("room 20 0 1;room 9 25 1;room 9 24 1;folk 0 5;jacks 25");
        Check.due("8: no strength for nothing", x.why(0), 0);
        x.lift(0);
        Check.due("8: strength of LOAD", x.why(1), 0);
        Check.due("8: strength below LOAD with FOLK", x.why(2), 3);
        TopDownTowers y = Check.towerOf("room 20 0 1;room 9 25 1;room 9 24 1;folk 0 5;jacks 24");
        y.lift(0);
        Check.due("8: jacks bear less", y.why(1), 4);
        Check.due("8: strength ahead of jacks", y.why(2), 3);
        TopDownTowers z = Check.towerOf("room 20 0 1;jacks 0");
        Check.due("8: jacks of nothing", z.why(0), 0);
        Check.due("9: jacks of nothing", z.lift(0), 1);
    }

    private static void whyWind() {
        TopDownTowers x = Check.towerOf("room 1 9 1;wind 0 0 9;wind 1 1 8;wind 39 39 9");
        Check.due("8: a WIND of 9, first one too", x.why(0), 5);
        Check.due("9: NOT", x.lift(0), NOT);
        Check.due("9: the DAY stays", x.count(5), 0);
        x.rest(1);
        Check.due("8: a WIND of 8", x.why(0), 0);
        x.rest(38);
        Check.due("8: DAY 39", x.why(0), 5);
        x.rest(1);
        Check.due("8: behind DAY 39", x.why(0), 0);
    }

    private static void whyInOrder() {
        TopDownTowers x = Check.towerOf("room 50 99 1;roof 9 0 1;room 9 0 1;room 9 60 1;jacks 40;wind 1 1 9");
        x.lift(0);
        Check.due("8: up ahead of all", x.why(0), 1);
        Check.due("8: PLACE ahead of STRENGTH", x.why(1), 2);
        Check.due("8: STRENGTH ahead of JACKS", x.why(2), 3);
        Check.due("8: JACKS ahead of WIND", x.why(3), 4);
    }

    private static void liftSets() {
        TopDownTowers x = Check.towerOf("room 10 99 1;room 20 99 2;folk 1 3");
        Check.due("9: one", x.lift(1), 1);
        Check.due("9: the next DAY", x.count(5), 1);
        Check.due("9: HEIGHT", x.count(6), 2);
        Check.due("9: LOAD", x.count(7), 23);
        Check.due("9: two", x.lift(0), 2);
        Check.due("9: the next DAY", x.count(5), 2);
        Check.due("9: HEIGHT", x.count(6), 3);
        Check.due("9: LOAD", x.count(7), 33);
    }

    private static void liftRefuses() {
        TopDownTowers x = Check.towerOf("room 10 99 1;roof 20 99 2");
        Check.due("9: no such", x.lift(2), UNKNOWN);
        Check.due("9: no such", x.lift(-1), UNKNOWN);
        x.lift(0);
        Check.due("9: it is up", x.lift(0), NOT);
        Check.due("9: no PLACE", x.lift(1), NOT);
        Check.due("9: nothing changes", x.count(4), 1);
        Check.due("9: nothing changes", x.count(5), 1);
        TopDownTowers y = Check.towerOf("room 10 99 1;room 20 99 2;room 20 0 2");
        for (int i = 0; i < 101; i++) {
            y.rest(99);
        }
        Check.due("9: near the end", y.count(5), 9999);
        Check.due("9: UNKNOWN ahead of FULL", y.lift(3), UNKNOWN);
        Check.due("9: above DAY 9999", y.lift(0), FULL);
        Check.due("9: nothing changes", y.count(4), 0);
        Check.due("8: it could be", y.why(0), 0);
        TopDownTowers z = Check.towerOf("room 10 99 1;room 20 99 2;room 20 0 2");
        for (int i = 0; i < 100; i++) {
            z.rest(99);
        }
        z.rest(98);
        Check.due("9: DAY 9998", z.lift(0), 1);
        Check.due("9: DAY 9999", z.count(5), 9999);
        Check.due("9: NOT ahead of FULL", z.lift(0), NOT);
        Check.due("9: NOT ahead of FULL", z.lift(2), NOT);
        Check.due("9: FULL", z.lift(1), FULL);
    }

    private static void restWaits() {
        TopDownTowers x = new TopDownTowers();
        int[] wrong = {0, 100, -1, Integer.MAX_VALUE, Integer.MIN_VALUE};
        for (int n : wrong) {
            Check.due("10: n " + n, x.rest(n), OUTSIDE);
        }
        Check.due("10: one", x.rest(1), 1);
        for (int i = 1; i <= 100; i++) {
            Check.due("10: many", x.rest(99), 1 + 99 * i);
        }
        Check.due("10: FULL", x.rest(99), FULL);
        Check.due("10: OUTSIDE first", x.rest(100), OUTSIDE);
        Check.due("10: nothing changes", x.count(5), 9901);
        Check.due("10: to the last", x.rest(98), 9999);
        Check.due("10: no more", x.rest(1), FULL);
    }

    private static void upAndFloor() {
        TopDownTowers x = Check.towerOf("room 1 99 1;room 1 99 2;room 1 99 4;room 1 99 8");
        Check.due("11: none", x.up(0), NONE);
        Check.due("12: not up", x.floor(0), NONE);
        x.lift(2);
        x.lift(0);
        x.lift(3);
        int[] due = {2, 0, 3, NONE, NONE};
        for (int i = 0; i < due.length; i++) {
            Check.due("11: up(" + i + ")", x.up(i), due[i]);
        }
        Check.due("11: far", x.up(Integer.MAX_VALUE), NONE);
        Check.due("11: below 0", x.up(-1), OUTSIDE);
        Check.due("11: far below", x.up(Integer.MIN_VALUE), OUTSIDE);
        Check.due("12: topmost", x.floor(2), 9);
        Check.due("12: middle", x.floor(0), 8);
        Check.due("12: lowest", x.floor(3), 0);
        Check.due("12: not up", x.floor(1), NONE);
        Check.due("12: no such", x.floor(4), UNKNOWN);
        Check.due("12: no such", x.floor(-1), UNKNOWN);
        x.lift(1);
        Check.due("12: lifted", x.floor(2), 11);
        Check.due("12: lifted", x.floor(3), 2);
    }

    private static void keepAndBack() {
        TopDownTowers x = Check.towerOf("room 1 99 1;room 1 99 2;room 1 99 4;wind 9 9 7");
        Check.due("13: no such", x.keep(2), UNKNOWN);
        Check.due("13: no such", x.keep(-1), UNKNOWN);
        Check.due("14: no such", x.back(2), UNKNOWN);
        Check.due("14: no such", x.back(-1), UNKNOWN);
        Check.due("14: nothing kept", x.back(0), NOT);
        Check.due("13: of nothing", x.keep(1), 0);
        Check.due("14: another k", x.back(0), NOT);
        x.lift(2);
        x.rest(8);
        Check.due("13: one", x.keep(0), 1);
        x.row(1);
        x.seen(0, 0);
        x.lift(0);
        x.lift(1);
        Check.due("14: one", x.back(0), 1);
        Check.due("14: it is up", x.up(0), 2);
        Check.due("14: no more", x.up(1), NONE);
        Check.due("14: the DAY", x.count(5), 9);
        Check.due("14: its WIND", x.count(8), 7);
        Check.due("14: nothing SEEN", x.count(10), 0);
        Check.due("14: THE ROW stays", x.count(9), 1);
        x.lift(0);
        Check.due("14: kept still", x.back(0), 1);
        Check.due("14: the other", x.back(1), 0);
        Check.due("14: its DAY", x.count(5), 0);
        x.lift(1);
        Check.due("13: over it", x.keep(0), 1);
        Check.due("14: kept anew", x.back(0), 1);
        Check.due("14: kept anew", x.up(0), 1);
        Check.due("14: the DAY anew", x.count(5), 1);
        TopDownTowers y = new TopDownTowers();
        y.rest(3);
        Check.due("13: ahead of any text", y.keep(0), 0);
        y.rest(3);
        Check.due("14: ahead of any text", y.back(0), 0);
        Check.due("14: its DAY", y.count(5), 3);
    }

    private static void keepTwoTowers() {
        TopDownTowers x = Check.towerOf("room 1 99 1;room 1 99 2;room 1 99 4");
        x.keep(1);
        x.lift(0);
        x.lift(1);
        x.keep(0);
        x.back(1);
        x.lift(2);
        x.lift(0);
        Check.due("13: another tower", x.keep(1), 2);
        Check.due("14: the first one", x.back(0), 2);
        Check.due("14: its topmost", x.up(0), 0);
        Check.due("14: its second", x.up(1), 1);
        x.lift(2);
        Check.due("14: the other one", x.back(1), 2);
        Check.due("14: its topmost", x.up(0), 2);
        Check.due("14: its second", x.up(1), 0);
        Check.due("14: a floor of it", x.floor(2), 1);
    }
}
