/** Promises 1 to 7: a new object, THE TEXT and its FAULT, what is told. */
public final class ToldTest {
    private static final int NONE = -1, UNKNOWN = -2, OUTSIDE = -3, NOT = -4, FULL = -5;

    private ToldTest() {
    }

    public static void main(String[] args) {
        newObject();
        writeCountsBytes();
        writeTakesBytesInOrder();
        writeRefuses();
        eraseEmpties();
        faultsOfWords();
        faultsOfNumbers();
        faultsOfBlanks();
        faultsOfTooMany();
        faultsByLinesAhead();
        siteDoesLines();
        siteStartsAnew();
        siteRefuses();
        storeyTells();
        asKinds();
        Check.end("ToldTest");
    }

    private static void newObject() {
        TopDownTowers x = new TopDownTowers();
        long[] due = {0, 500, 10, 0, 0, 0, 0, 0, 0, 0, 0, 0};
        for (int what = 0; what < due.length; what++) {
            Check.due("1: count(" + what + ")", x.count(what), due[what]);
        }
        Check.due("1: soonest(8)", x.soonest(8), 7);
        Check.due("1: back(0)", x.back(0), NOT);
    }

    private static void writeCountsBytes() {
        TopDownTowers x = new TopDownTowers();
        Check.due("2: one byte", x.write('s', 1), 1);
        Check.due("2: eight bytes", x.write(0, 8), 9);
        Check.due("2: count(11)", x.count(11), 9);
    }

    private static void writeTakesBytesInOrder() {
        TopDownTowers x = new TopDownTowers();
        Check.due("2: site", x.write(0x65746973L, 4), 4);
        Check.due("2: read", x.fault(), NONE);
        TopDownTowers y = new TopDownTowers();
        Check.due("2: only n bytes count", y.write(0x3b65746973L, 4), 4);
        Check.due("2: read", y.fault(), NONE);
        TopDownTowers z = new TopDownTowers();
        z.write(Check.packed("site    ", 0, 8) & 0xffffffffffffffL | 0xff00000000000000L, 8);
        Check.due("2: the eighth byte, 255", z.fault(), 7);
    }

    private static void writeRefuses() {
        TopDownTowers x = new TopDownTowers();
        int[] wrong = {0, 9, -1, Integer.MIN_VALUE, Integer.MAX_VALUE};
        for (int n : wrong) {
            Check.due("2: n " + n, x.write(0, n), OUTSIDE);
        }
        for (int i = 1; i <= 24; i++) {
            Check.due("2: many", x.write(0, 8), 8 * i);
        }
        Check.due("2: 199", x.write(0, 7), 199);
        Check.due("2: two do not go in", x.write(0, 2), FULL);
        Check.due("2: OUTSIDE ahead of FULL", x.write(0, 9), OUTSIDE);
        Check.due("2: nothing changed", x.count(11), 199);
        Check.due("2: one does", x.write(0, 1), 200);
        Check.due("2: full", x.write(0, 1), FULL);
        Check.due("3: all", x.erase(), 200);
        Check.due("2: room again", x.write(0, 8), 8);
    }

    private static void eraseEmpties() {
        TopDownTowers x = new TopDownTowers();
        Check.due("3: nothing", x.erase(), 0);
        Check.write(x, "room 1 1 1");
        Check.due("3: ten", x.erase(), 10);
        Check.due("3: then none", x.erase(), 0);
        Check.due("3: count(11)", x.count(11), 0);
        Check.due("3: nothing was told", x.count(0), 0);
        Check.write(x, "site");
        Check.due("3: nothing of it is left", x.fault(), NONE);
    }

    private static void fault(String text, int due) {
        fault("", text, due);
    }

    private static void fault(String ahead, String text, int due) {
        TopDownTowers x = new TopDownTowers();
        if (!ahead.isEmpty()) {
            Check.tell(x, ahead);
        }
        Check.write(x, text);
        Check.due("4: fault() of '" + text + "'", x.fault(), due);
        Check.due("4: nothing changes", x.fault(), due);
        Check.due("4: it stays", x.count(11), text.length());
        int lines = text.split(";", -1).length;
        Check.due("5: site() of '" + text + "'", x.site(), due == NONE ? lines : NOT);
        Check.due("5: what is left", x.count(11), due == NONE ? 0 : text.length());
    }

    private static void faultsOfWords() {
        fault("", 0);
        fault("site", NONE);
        fault("sit", 0);
        fault("sites", 0);
        fault("Site", 0);
        fault("xite", 0);
        fault("doom 1 1 1", 0);
        fault("siteroom 1 1 1", 0);
        fault("site room 1 1 1", 5);
        fault("site;site", NONE);
        fault("site;", 5);
        fault("site;;site", 5);
        fault(";site", 0);
        fault("site:site", 4);
        fault("5", 0);
        fault("site\0", 4);
        fault("site" + (char) 233, 4);
        fault("rooms 1 1 1", 0);
        fault("roo 1 1 1", 0);
        fault("folks 1 1", 0);
        fault("room 1 1 1", NONE);
        fault("roof 1 1 1", NONE);
        fault("cellar 1 1 1", NONE);
        fault("bells 1 1 1", NONE);
        fault("room", 4);
        fault("room 1", 6);
        fault("room 1 1", 8);
        fault("room 1 1;site", 8);
        fault("room 1 1 1 1", 11);
        fault("room 1 1 x", 9);
        fault("room 1 -1 1", 7);
        fault("room 1 1 1;x", 11);
        fault("jacks", 5);
        fault("jacks 5 5", 8);
        fault("soft", 4);
        fault("soft 5 5", 7);
        fault("wind 1 1", 8);
        fault("wind 1 1 1 1", 11);
        fault("jacks site", 6);
    }

    private static void faultsOfNumbers() {
        fault("room 1 0 1;room 99 999 9", NONE);
        fault("room 0 1 1", 5);
        fault("room 100 1 1", 5);
        fault("room 1 1000 1", 7);
        fault("room 1 1 0", 9);
        fault("room 1 1 10", 9);
        fault("room 001 000 009", NONE);
        fault("room 0001 1 1", 5);
        fault("room 1 0000 1", 7);
        fault("room 99999999999999999999 1 1", 5);
        fault("roof 0 1 1", 5);
        fault("cellar 100 1 1", 7);
        fault("bells 1 1 10", 10);
        fault("jacks 0;jacks 999;jacks 000", NONE);
        fault("jacks 1000", 6);
        fault("jacks 0999", 6);
        fault("soft 1;soft 99;soft 099", NONE);
        fault("soft 0", 5);
        fault("soft 100", 5);
        fault("wind 0 0 0;wind 39 39 9;wind 0 39 5", NONE);
        fault("wind 40 40 0", 5);
        fault("wind 3 2 0", 7);
        fault("wind 3 40 0", 7);
        fault("wind 3 3 10", 9);
    }

    private static void faultsOfBlanks() {
        fault("  site  ", NONE);
        fault(" room   1  2   3  ;  site ", NONE);
        fault("   ", 3);
        fault("room 1  ", 8);
        fault("room1 2 3", NONE);
        fault("jacks5;soft7", NONE);
        fault("room 1\t2 3", 6);
        fault("site ; ", 7);
        fault("ro om 1 1 1", 0);
        fault("jacks 5 0", 8);
    }

    private static void faultsOfTooMany() {
        String twelve = "site;site;site;site;site;site;site;site;site;site;site;site";
        fault(twelve, NONE);
        fault(twelve + ";site", twelve.length());
        fault(twelve + ";", twelve.length());
        fault(twelve + "  ;", twelve.length() + 2);
        fault(twelve + " x", twelve.length() + 1);
        String eight = "room 1 1 1;room 1 1 1;room 1 1 1;room 1 1 1;roof 1 1 1;cellar 1 1 1;bells 1 1 1;room 1 1 1";
        fault(eight, NONE);
        fault(eight + ";roof 0", eight.length() + 1);
        fault(eight + ";site;roof 1 1 1", NONE);
        fault(eight, "cellar", 0);
        fault(eight, "bells 1 1 1", 0);
        fault(eight, "site;bells 1 1 1", NONE);
        String two = "room 1 1 1;room 1 1 1";
        String pairs = "above 0 1;above 0 1;above 0 1;above 0 1;above 1 0;above 0 1;above 0 1;above 0 1";
        fault(two, pairs, NONE);
        fault(two, pairs + ";above 9", pairs.length() + 1);
        fault(two + ";" + pairs, "above 0 1", 0);
        fault(two + ";" + pairs, "site;" + two + ";above 0 1", NONE);
    }

    private static void faultsByLinesAhead() {
        fault("folk 0 1", 5);
        fault("above 0 0", 6);
        fault("room 1 1 1;folk 0 0;folk 0 99", NONE);
        fault("room 1 1 1;folk 0 100", 18);
        fault("room 1 1 1;folk 1 1", 16);
        fault("folk 0 1;room 1 1 1", 5);
        fault("room 1 1 1", "folk 0 1", NONE);
        fault("room 1 1 1", "folk 1 1", 5);
        fault("room 1 1 1", "room 1 1 1;folk 1 1", NONE);
        fault("room 1 1 1", "site;folk 0 1", 10);
        fault("room 1 1 1;room 1 1 1", "above 0 1", NONE);
        fault("room 1 1 1;room 1 1 1", "above 1 0", NONE);
        fault("room 1 1 1;room 1 1 1", "above 1 1", 8);
        fault("room 1 1 1;room 1 1 1", "above 1 001", 8);
        fault("room 1 1 1;room 1 1 1", "above 2 1", 6);
        fault("room 1 1 1;room 1 1 1", "above 1 2", 8);
        fault("room 1 1 1;room 1 1 1", "above 1", 7);
        fault("room 1 1 1;room 1 1 1", "site;room 1 1 1;above 0 1", 24);
    }

    private static void siteDoesLines() {
        TopDownTowers x = Check.towerOf("roof 1 2 3;jacks 77;soft 8;folk 0 5;folk 0 6;wind 0 0 4;wind 1 5 9;wind 3 3 2");
        Check.due("5: STOREYS", x.count(0), 1);
        Check.due("5: JACKS", x.count(1), 77);
        Check.due("5: SOFT", x.count(2), 8);
        Check.due("5: FOLK, the last told", x.storey(0, 4), 6);
        int[] winds = {4, 9, 9, 2, 9, 9, 0};
        for (int day = 0; day < winds.length; day++) {
            Check.due("5: WIND of " + day, x.count(8), winds[day]);
            x.rest(1);
        }
        Check.tell(x, "bells 4 5 6;above 1 0");
        Check.due("5: one more", x.count(0), 2);
        Check.due("5: PAIRS", x.count(3), 1);
        Check.due("5: the others stay", x.storey(0, 4), 6);
        Check.due("5: jacks stay", x.count(1), 77);
        Check.tell(x, "above 1 0;cellar 1 1 1;wind 30 39 9");
        Check.due("5: a PAIR twice", x.count(3), 2);
        Check.tell(x, "site");
        long[] due = {0, 500, 10, 0, 0, 0, 0, 0, 0, 0, 0, 0};
        for (int what = 0; what < due.length; what++) {
            Check.due("5: as at first, count(" + what + ")", x.count(what), due[what]);
        }
        Check.due("5: no winds", x.soonest(8), 7);
        x.rest(39);
        Check.due("5: no wind of the last DAY", x.count(8), 0);
        Check.tell(x, "room 1 1 1;room 2 2 2;room 1 1 1");
        Check.due("5: no FOLK of earlier", x.storey(0, 4), 0);
        Check.due("5: no PAIR of earlier", x.why(0), 0);
        x.lift(2);
        Check.due("5: no CELLAR of earlier", x.why(0), 0);
    }

    private static void siteStartsAnew() {
        TopDownTowers x = Check.towerOf("room 1 1 1;room 1 1 1");
        x.lift(1);
        x.rest(5);
        x.row(0);
        x.seen(0, 0);
        x.keep(0);
        x.keep(1);
        Check.tell(x, "soft 5");
        Check.due("5: nothing is up", x.count(4), 0);
        Check.due("5: up(0)", x.up(0), NONE);
        Check.due("5: DAY 0", x.count(5), 0);
        Check.due("5: no ROW", x.count(9), 0);
        Check.due("5: nothing SEEN", x.count(10), 0);
        Check.due("5: the text is empty", x.count(11), 0);
        Check.due("5: nothing kept", x.back(0), NOT);
        Check.due("5: nothing kept", x.back(1), NOT);
    }

    private static void siteRefuses() {
        TopDownTowers x = Check.towerOf("room 1 1 1");
        x.lift(0);
        x.row(0);
        x.seen(0, 0);
        x.keep(0);
        Check.write(x, "jacks 5;room 2 2 2;x");
        Check.due("5: NOT", x.site(), NOT);
        Check.due("5: no LINE was done", x.count(0), 1);
        Check.due("5: jacks as they were", x.count(1), 500);
        Check.due("5: it is up", x.count(4), 1);
        Check.due("5: the DAY", x.count(5), 1);
        Check.due("5: THE ROW", x.count(9), 1);
        Check.due("5: SEEN", x.count(10), 1);
        Check.due("5: kept", x.back(0), 1);
        Check.due("5: the text stays", x.erase(), 20);
        Check.due("5: an empty one", x.site(), NOT);
        Check.write(x, "jacks 5");
        Check.due("4: tells a FAULT only", x.fault(), NONE);
        Check.due("4: and does nothing", x.count(1), 500);
    }

    private static void storeyTells() {
        TopDownTowers x = Check.towerOf("room 10 20 3;roof 11 21 4;cellar 12 22 5;bells 13 23 6;folk 2 99");
        int[][] due = {{0, 10, 20, 3, 0}, {1, 11, 21, 4, 0}, {2, 12, 22, 5, 99}, {3, 13, 23, 6, 0}};
        for (int s = 0; s < 4; s++) {
            for (int what = 0; what < 5; what++) {
                Check.due("6: storey(" + s + ", " + what + ")", x.storey(s, what), due[s][what]);
            }
            Check.due("6: what 5", x.storey(s, 5), OUTSIDE);
            Check.due("6: what -1", x.storey(s, -1), OUTSIDE);
        }
        Check.due("6: no such", x.storey(4, 0), UNKNOWN);
        Check.due("6: no such", x.storey(-1, 0), UNKNOWN);
        Check.due("6: UNKNOWN first", x.storey(4, 9), UNKNOWN);
        Check.due("6: far off", x.storey(Integer.MAX_VALUE, 0), UNKNOWN);
        Check.due("6: far off", x.storey(Integer.MIN_VALUE, 0), UNKNOWN);
    }

    private static void asKinds() {
        TopDownTowers x = Check.towerOf("room 10 20 3;roof 11 21 4;cellar 12 22 5;bells 13 23 6;folk 2 99;folk 0 1");
        int[][] due = {
            {11, 11, NOT, NOT, NOT},
            {11, 11, 11, NOT, NOT},
            {111, 111, NOT, 111, NOT},
            {13, NOT, NOT, NOT, 13}};
        for (int s = 0; s < 4; s++) {
            for (int kind = 0; kind < 5; kind++) {
                Check.due("7: as(" + s + ", " + kind + ")", x.as(s, kind), due[s][kind]);
            }
            Check.due("7: kind 5", x.as(s, 5), OUTSIDE);
            Check.due("7: kind -1", x.as(s, -1), OUTSIDE);
        }
        Check.due("7: no such", x.as(4, 0), UNKNOWN);
        Check.due("7: UNKNOWN first", x.as(-1, 7), UNKNOWN);
    }
}
