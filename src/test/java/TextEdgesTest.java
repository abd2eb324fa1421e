import java.util.function.Supplier;

/** The edges that the document names of what is told and of THE TEXT (promises 1 to 7), each on both sides. */
public final class TextEdgesTest {
    private static final int NONE = -1, UNKNOWN = -2, OUTSIDE = -3, NOT = -4, FULL = -5;
    private static final String[] KINDS = {"room", "roof", "cellar", "bells"};
    private static final String TWO = "room 1 1 1;room 1 1 1";
    private static final String EIGHT =
        "room 1 1 1;room 1 1 1;room 1 1 1;room 1 1 1;room 1 1 1;room 1 1 1;room 1 1 1;room 1 1 1";
    private static final String EIGHT_PAIRS =
        "above 0 1;above 0 1;above 0 1;above 0 1;above 0 1;above 0 1;above 0 1;above 0 1";
    private static final String ELEVEN_LINES = "site;site;site;site;site;site;site;site;site;site;site;";

    private TextEdgesTest() {
    }

    public static void main(String[] args) {
        storeysAsTheyCome();
        noNinthStorey();
        kinds();
        weights();
        strengths();
        heights();
        folk();
        jacks();
        soft();
        winds();
        windsOutside();
        windsBackwards();
        pairs();
        pairOfOne();
        storeysOfLinesAhead();
        bytesOfTheText();
        linesOfTheText();
        partsOfLines();
        siteLine();
        smallLetters();
        digits();
        blanks();
        firstToken();
        endTooSoon();
        linesInOrder();
        behindTheLines();
        newObject();
        write();
        erase();
        fault();
        site();
        storey();
        as();
        Check.end("TextEdgesTest");
    }

    private static TopDownTowers writtenBehind(String ahead, String text) {
        TopDownTowers x = new TopDownTowers();
        if (!ahead.isEmpty()) {
            Check.tell(x, ahead);
        }
        x.rest(2);
        x.lift(0);
        x.keep(1);
        x.seen(0, 0);
        x.row(0);
        Check.write(x, text);
        return x;
    }

    private static void stands(String ahead, String text) {
        Twins.unchanged("fault() of '" + text + "'", () -> writtenBehind(ahead, text), x -> x.fault(), NONE);
        Check.due("site() of '" + text + "'", writtenBehind(ahead, text).site(), text.split(";", -1).length);
    }

    private static void stands(String text) {
        stands("", text);
    }

    private static void faultAt(int place, String ahead, String text) {
        Twins.unchanged("fault() of '" + text + "'", () -> writtenBehind(ahead, text), x -> x.fault(), place);
        Twins.unchanged("site() of '" + text + "'", () -> writtenBehind(ahead, text), x -> x.site(), NOT);
    }

    private static void faultAt(int place, String text) {
        faultAt(place, "", text);
    }

    private static void storeysAsTheyCome() {
        Check.sentence("STOREYS are 0, 1 .. as they come, 8 at most (none at first)");
        TopDownTowers x = new TopDownTowers();
        Check.due("none at first", x.count(0), 0);
        Check.due("no 0 at first", x.storey(0, 0), UNKNOWN);
        for (int s = 0; s < 8; s++) {
            Check.tell(x, "room " + (s + 11) + " 1 1");
            Check.due("one more", x.count(0), s + 1);
            Check.due("the last one", x.storey(s, 1), s + 11);
            Check.due("the first one still", x.storey(0, 1), 11);
            Check.due("no next one", x.storey(s + 1, 1), UNKNOWN);
        }
        Check.write(x, "room 1 1 1");
        Check.due("a ninth", x.site(), NOT);
        Check.due("eight", x.count(0), 8);
    }

    private static void noNinthStorey() {
        Check.sentence("room ..: a STOREY more, a ninth cannot stand there (at its word)");
        String seven = EIGHT.substring(11);
        stands(EIGHT);
        for (String kind : KINDS) {
            stands(seven, kind + " 1 1 1");
            stands(seven + ";" + kind + " 1 1 1");
            faultAt(0, EIGHT, kind + " 1 1 1");
            faultAt(0, EIGHT, kind);
            faultAt(EIGHT.length() + 1, EIGHT + ";" + kind + " 1 1 1");
            faultAt(11, seven, "room 1 1 1;" + kind + " 0");
            stands(EIGHT, "site;" + kind + " 1 1 1");
            faultAt(6, EIGHT, "jacks x;" + kind);
        }
        stands(EIGHT, "folk 7 1;above 7 0;jacks 1");
    }

    private static void kinds() {
        Check.sentence("of a KIND, 0 ROOM, 1 ROOF, 2 CELLAR, 3 BELLS");
        for (int kind = 0; kind < 4; kind++) {
            TopDownTowers x = Check.towerOf(KINDS[kind] + " 1 2 3");
            Check.due(KINDS[kind], x.storey(0, 0), kind);
        }
    }

    /** A number of a STOREY: the place in its LINE counted from behind the word, 1 to 3. */
    private static void storeyNumber(int place, int least, int greatest) {
        for (String kind : KINDS) {
            String[] numbers = {"1", "1", "1"};
            int at = kind.length() + 1 + 2 * (place - 1);
            for (int value : new int[] {least, greatest}) {
                numbers[place - 1] = Integer.toString(value);
                String line = kind + " " + String.join(" ", numbers);
                stands(line);
                Check.due(line, Check.towerOf(line).storey(0, place), value);
            }
            numbers[place - 1] = Integer.toString(greatest + 1);
            faultAt(at, kind + " " + String.join(" ", numbers));
            if (least > 0) {
                numbers[place - 1] = Integer.toString(least - 1);
                faultAt(at, kind + " " + String.join(" ", numbers));
            }
            numbers[place - 1] = "-1";
            faultAt(at, kind + " " + String.join(" ", numbers));
        }
    }

    private static void weights() {
        Check.sentence("of a WEIGHT (1 ..");
        storeyNumber(1, 1, 99);
    }

    private static void strengths() {
        Check.sentence("99), a STRENGTH (0 .. 999)");
        storeyNumber(2, 0, 999);
    }

    private static void heights() {
        Check.sentence("a HEIGHT (1 .. 9)");
        storeyNumber(3, 1, 9);
    }

    private static void folk() {
        Check.sentence("with FOLK (0 .. 99 pounds; 0 at first)");
        TopDownTowers x = Check.towerOf("room 1 1 1");
        Check.due("at first", x.storey(0, 4), 0);
        Check.tell(x, "folk 0 99");
        Check.due("the most", x.storey(0, 4), 99);
        Check.tell(x, "folk 0 0");
        Check.due("the least", x.storey(0, 4), 0);
        stands("room 1 1 1", "folk 0 99");
        stands("room 1 1 1", "folk 0 0");
        faultAt(7, "room 1 1 1", "folk 0 100");
        faultAt(7, "room 1 1 1", "folk 0 -1");
    }

    private static void jacks() {
        Check.sentence("JACKS bear 0 .. 999 (500 at first)");
        TopDownTowers x = new TopDownTowers();
        Check.due("at first", x.count(1), 500);
        Check.tell(x, "jacks 0");
        Check.due("the least", x.count(1), 0);
        Check.tell(x, "jacks 999");
        Check.due("the most", x.count(1), 999);
        stands("jacks 0");
        stands("jacks 999");
        faultAt(6, "jacks 1000");
        faultAt(6, "jacks -1");
    }

    private static void soft() {
        Check.sentence("give one inch for each SOFT pounds (1 .. 99; 10 at first)");
        TopDownTowers x = new TopDownTowers();
        Check.due("at first", x.count(2), 10);
        Check.tell(x, "soft 1");
        Check.due("the least", x.count(2), 1);
        Check.tell(x, "soft 99");
        Check.due("the most", x.count(2), 99);
        stands("soft 1");
        stands("soft 99");
        faultAt(5, "soft 0");
        faultAt(5, "soft 100");
    }

    private static void winds() {
        Check.sentence("WIND of a DAY (0 .. 39) is 0 .. 9 (0 at first; behind DAY 39: 0)");
        TopDownTowers still = new TopDownTowers();
        TopDownTowers windy = Check.towerOf("wind 0 39 9");
        TopDownTowers edges = Check.towerOf("wind 0 0 1;wind 39 39 2");
        for (int day = 0; day <= 41; day++) {
            Check.due("at first, DAY " + day, still.count(8), 0);
            Check.due("all told, DAY " + day, windy.count(8), day <= 39 ? 9 : 0);
            Check.due("edges told, DAY " + day, edges.count(8), day == 0 ? 1 : day == 39 ? 2 : 0);
            still.rest(1);
            windy.rest(1);
            edges.rest(1);
        }
        Check.tell(windy, "wind 0 39 0");
        Check.due("0 told", windy.count(8), 0);
    }

    private static void windsOutside() {
        Check.sentence("WIND of a DAY (0 .. 39) is 0 .. 9");
        stands("wind 0 0 0");
        stands("wind 39 39 9");
        faultAt(5, "wind 40 40 0");
        faultAt(8, "wind 39 40 0");
        faultAt(10, "wind 0 39 10");
        faultAt(5, "wind -1 0 0");
    }

    private static void windsBackwards() {
        Check.sentence("wind: of DAYS A to B (B not below A)");
        stands("wind 7 7 1");
        stands("wind 7 8 1");
        faultAt(7, "wind 7 6 1");
        faultAt(7, "wind 1 0 1");
        TopDownTowers x = Check.towerOf("wind 7 9 9");
        for (int day = 0; day <= 11; day++) {
            Check.due("DAY " + day, x.count(8), day >= 7 && day <= 9 ? 9 : 0);
            x.rest(1);
        }
    }

    private static void pairs() {
        Check.sentence("PAIRS, 8 at most (none at first)");
        TopDownTowers x = Check.towerOf(TWO);
        Check.due("none at first", x.count(3), 0);
        for (int i = 1; i <= 8; i++) {
            Check.tell(x, "above 0 1");
            Check.due("one more", x.count(3), i);
        }
        Check.sentence("a ninth PAIR cannot stand there");
        String seven = EIGHT_PAIRS.substring(10);
        stands(TWO, EIGHT_PAIRS);
        stands(TWO + ";" + seven, "above 1 0");
        faultAt(0, TWO + ";" + EIGHT_PAIRS, "above 1 0");
        faultAt(0, TWO + ";" + EIGHT_PAIRS, "above");
        faultAt(10, TWO + ";" + seven, "above 1 0;above 1 0");
        faultAt(EIGHT_PAIRS.length() + 1, TWO, EIGHT_PAIRS + ";above 1 0");
        stands(TWO + ";" + EIGHT_PAIRS, "site;" + TWO + ";above 1 0");
        stands(TWO + ";" + EIGHT_PAIRS, "room 1 1 1;folk 2 1");
    }

    private static void pairOfOne() {
        Check.sentence("above: T must be above U, not T (else a FAULT at U)");
        stands(TWO, "above 0 1");
        stands(TWO, "above 1 0");
        faultAt(8, TWO, "above 0 0");
        faultAt(8, TWO, "above 1 1");
        faultAt(10, TWO, "above 001 001");
    }

    private static void storeysOfLinesAhead() {
        Check.sentence("T, U such as there are behind the LINES ahead");
        faultAt(5, "folk 0 1");
        faultAt(6, "above 0 1");
        stands("room 1 1 1", "folk 0 1");
        faultAt(5, "room 1 1 1", "folk 1 1");
        stands("room 1 1 1;folk 0 1");
        faultAt(5, "folk 0 1;room 1 1 1");
        stands(TWO, "folk 1 1");
        faultAt(5, TWO, "folk 2 1");
        faultAt(6, TWO, "above 2 0");
        faultAt(8, TWO, "above 0 2");
        stands(TWO, "room 1 1 1;above 2 0;above 0 2");
        faultAt(14, TWO, "folk 0 1;folk 2 1");
        faultAt(6, TWO, "above 2 0;room 1 1 1");
        faultAt(10, TWO, "site;folk 0 1");
        stands(EIGHT, "folk 7 1;above 7 6");
        faultAt(5, EIGHT, "folk 8 1");
        faultAt(8, EIGHT, "above 7 8");
    }

    private static TopDownTowers holding(int bytes) {
        TopDownTowers x = new TopDownTowers();
        Check.write(x, "site" + " ".repeat(bytes - 4));
        return x;
    }

    private static void bytesOfTheText() {
        Check.sentence("THE TEXT is a row of bytes, 200 at most");
        for (int n = 1; n <= 8; n++) {
            int more = n;
            Check.due("up to 200 by " + n, holding(200 - n).write(0, n), 200);
            Twins.unchanged("201 by " + n, () -> holding(201 - more), x -> x.write(-1, more), FULL);
            Twins.unchanged("200 and " + n, () -> holding(200), x -> x.write(-1, more), FULL);
        }
        Check.due("200 bytes are read", holding(200).fault(), NONE);
        Check.due("200 bytes are done", holding(200).site(), 1);
        stands("site" + " ".repeat(191) + ";site");
        faultAt(199, "site" + " ".repeat(195) + "x");
        faultAt(200, "site" + " ".repeat(190) + ";jacks");
        faultAt(200, "site;" + " ".repeat(195));
    }

    private static void linesOfTheText() {
        Check.sentence("LINES with ; (59) between, 12 at most");
        stands("site");
        stands(ELEVEN_LINES.substring(0, 54));
        stands(ELEVEN_LINES + "site");
        faultAt(59, ELEVEN_LINES + "site;site");
        faultAt(59, ELEVEN_LINES + "site;");
        faultAt(55, ELEVEN_LINES);
        faultAt(4, "site:site");
        faultAt(4, "site<site");
        faultAt(4, "site,site");
        faultAt(5, "site site");
        faultAt(5, "site;;site");
        faultAt(0, ";site");
        faultAt(0, ";");
        faultAt(5, "site;");
    }

    private static void partsOfLines() {
        Check.sentence("site. room W S H. roof W S H. cellar W S H. bells W S H. folk T F. jacks J. soft G. "
            + "wind A B V. above T U.");
        String[] lines = {"site", "room 1 1 1", "roof 1 1 1", "cellar 1 1 1", "bells 1 1 1", "folk 0 1", "jacks 1",
            "soft 1", "wind 1 1 1", "above 0 1"};
        for (String line : lines) {
            stands(TWO, line);
            faultAt(line.length() + 1, TWO, line + " 1");
            faultAt(line.length() + 1, TWO, line + " site");
            faultAt(line.length(), TWO, line + ".");
            faultAt(0, TWO, line.substring(1));
            faultAt(0, TWO, "a" + line);
            for (int i = 0; i < line.length() && line.charAt(i) != ' '; i++) {
                faultAt(0, TWO, line.substring(0, i) + "x" + line.substring(i + 1));
            }
            for (int end = line.lastIndexOf(' '); end > 0; end = line.lastIndexOf(' ', end - 1)) {
                faultAt(end, TWO, line.substring(0, end));
                faultAt(end + 1, TWO, line.substring(0, end) + " x");
                faultAt(end, TWO, line.substring(0, end) + ";site");
            }
        }
    }

    private static void siteLine() {
        Check.sentence("site: nothing is told, all as at first");
        TopDownTowers x = Check.towerOf(EIGHT + ";above 0 1;jacks 1;soft 1;wind 0 39 9");
        Check.tell(x, "folk 0 9;site");
        TopDownTowers first = new TopDownTowers();
        for (int what = 0; what <= 11; what++) {
            Check.due("count(" + what + ")", x.count(what), first.count(what));
        }
        for (int k = 1; k <= 8; k++) {
            Check.due("soonest(" + k + ")", x.soonest(k), first.soonest(k));
        }
        Check.due("no 0", x.storey(0, 0), UNKNOWN);
        for (int day = 0; day < 40; day++) {
            Check.due("WIND of DAY " + day, x.count(8), 0);
            x.rest(1);
        }
        Check.tell(x, "cellar 1 9 1;cellar 1 9 1;folk 0 9;folk 1 9;above 0 1");
        Check.tell(x, "site;room 1 9 1;room 1 9 1");
        Check.due("FOLK", x.storey(0, 4), 0);
        Check.due("no PAIR is left", x.why(1), 0);
        Check.due("set", x.lift(1), 1);
        Check.due("no CELLAR is left", x.why(0), 0);
    }

    private static void smallLetters() {
        Check.sentence("small letters a .. z");
        faultAt(0, "Site");
        faultAt(0, "sitE");
        faultAt(0, "SITE");
        faultAt(0, "`");
        faultAt(0, "{");
        faultAt(0, "sitea");
        faultAt(0, "sitez");
        faultAt(4, "site`");
        faultAt(4, "site{");
        faultAt(4, "siteA");
        faultAt(4, "siteZ");
    }

    private static void digits() {
        Check.sentence("numbers of 1 to 3 digits");
        stands("soft 9");
        stands("soft 09");
        stands("soft 009");
        faultAt(5, "soft 0009");
        faultAt(5, "soft 00000000000000000000009");
        faultAt(5, "soft ");
        faultAt(5, "soft /");
        faultAt(5, "soft :");
        faultAt(6, "soft 9/");
        faultAt(6, "soft 9:");
        stands("jacks 000");
        faultAt(6, "jacks 0000");
        faultAt(6, "jacks 4294967297");
        faultAt(5, "room 18446744073709551617 1 1");
        Check.due("all ten digits", Check.towerOf("jacks 123;jacks 456;jacks 789;jacks 860").count(1), 860);
    }

    private static void blanks() {
        Check.sentence("blanks (32) between");
        stands("soft 9");
        stands("soft  9");
        stands("  soft   9  ;  site  ");
        for (int other : new int[] {0, 9, 10, 13, 31, 33, 160, 255}) {
            faultAt(4, "soft" + (char) other + "9");
            faultAt(0, (char) other + "site");
            faultAt(4, "site" + (char) other);
        }
        faultAt(0, "so ft 9");
        faultAt(7, "soft 9 9");
    }

    private static void firstToken() {
        Check.sentence("A FAULT is at the first TOKEN (a row of small letters, a row of digits, any other byte) "
            + "that cannot stand there (a number out of its bounds, of more digits, also)");
        faultAt(5, "soft 0;soft 0");
        faultAt(12, "soft 1;soft 100;x");
        faultAt(5, "soft abc");
        faultAt(5, "soft !!!");
        faultAt(0, "abc 1 2 3");
        faultAt(0, "123");
        faultAt(7, "room 9 abc 0");
        faultAt(9, "room 9 9 10;soft 0");
        for (int other = 128; other <= 255; other += 127) {
            faultAt(6, "soft 1" + (char) other + (char) other);
        }
    }

    private static void endTooSoon() {
        Check.sentence("or at the end, if it comes too soon");
        faultAt(0, "");
        faultAt(1, " ");
        faultAt(5, "site;");
        faultAt(6, "site; ");
        faultAt(4, "room");
        faultAt(7, "room 1 ");
        stands("site ");
        stands("site; site");
    }

    private static void linesInOrder() {
        Check.sentence("LINES are done in their order.");
        Check.due("the later JACKS", Check.towerOf("jacks 1;jacks 2").count(1), 2);
        Check.due("the later JACKS", Check.towerOf("jacks 2;jacks 1").count(1), 1);
        Check.due("site last", Check.towerOf("jacks 2;site").count(1), 500);
        Check.due("site first", Check.towerOf("site;jacks 2").count(1), 2);
        Check.due("the later WIND", Check.towerOf("wind 0 9 5;wind 0 0 6").count(8), 6);
        Check.due("the later WIND", Check.towerOf("wind 0 0 6;wind 0 9 5").count(8), 5);
        Check.due("the first STOREY", Check.towerOf("roof 1 1 1;bells 1 1 1").storey(0, 0), 1);
    }

    private static void behindTheLines() {
        Check.sentence("Behind them it is DAY 0, nothing is up; no ROW, nothing SEEN is told, nothing is kept.");
        TopDownTowers x = Check.towerOf(TWO);
        x.rest(9);
        x.lift(1);
        x.row(0);
        x.seen(0, 0);
        x.keep(0);
        x.keep(1);
        int[] before = {1, 10, 1, 1};
        int[] asked = {4, 5, 9, 10};
        for (int i = 0; i < asked.length; i++) {
            Check.due("ahead, count(" + asked[i] + ")", x.count(asked[i]), before[i]);
        }
        Check.tell(x, "jacks 500");
        for (int what : asked) {
            Check.due("behind, count(" + what + ")", x.count(what), 0);
        }
        Check.due("nothing is kept", x.back(0), NOT);
        Check.due("nothing is kept", x.back(1), NOT);
        Check.due("nothing is up", x.up(0), NONE);
        Check.due("it can be set again", x.why(1), 0);
    }

    private static void newObject() {
        Check.sentence("`TopDownTowers()`: No STOREYS, jacks that bear 500.");
        TopDownTowers x = new TopDownTowers();
        Check.due("STOREYS", x.count(0), 0);
        Check.due("JACKS", x.count(1), 500);
        Check.due("no STOREY", x.why(0), UNKNOWN);
        Check.due("the text", x.fault(), 0);
        Check.due("nothing kept", x.back(0), NOT);
        Check.due("nothing kept", x.back(1), NOT);
        Check.tell(x, "jacks 9");
        Check.due("another one is not touched", new TopDownTowers().count(1), 500);
    }

    private static void write() {
        Check.sentence("n (1 .. 8) bytes more of THE TEXT, byte i being bytes >> 8 i & 255: how many it has. OUTSIDE; FULL.");
        Supplier<TopDownTowers> some = () -> holding(9);
        for (int n : new int[] {0, -1, 9, Integer.MIN_VALUE, Integer.MAX_VALUE}) {
            Twins.unchanged("write(0, " + n + ")", some, x -> x.write(0, n), OUTSIDE);
        }
        String words = "room 1 1";
        for (int n = 1; n <= 8; n++) {
            TopDownTowers x = new TopDownTowers();
            Check.due("n " + n, x.write(Check.packed(words, 0, 8), n), n);
            Check.due("n " + n + ", the rest", x.write(Check.packed(words + "; 1     ", n, 8), 8), n + 8);
            Check.due("n " + n + ", read in order", x.fault(), 8);
        }
        TopDownTowers x = new TopDownTowers();
        Check.due("eight times 255", x.write(-1L, 8), 8);
        Check.due("it is no letter", x.fault(), 0);
        TopDownTowers y = new TopDownTowers();
        Check.due("above the n bytes all is left out", y.write(0xffffffff65746973L, 4), 4);
        Check.due("so it is read", y.fault(), NONE);
    }

    private static void erase() {
        Check.sentence("THE TEXT is empty: how many bytes it had.");
        TopDownTowers x = holding(200);
        Check.due("the most", x.erase(), 200);
        Check.due("none", x.erase(), 0);
        Check.due("none is left", x.count(11), 0);
        Check.due("it has room again", x.write(0, 8), 8);
        Check.due("eight", x.erase(), 8);
        Twins.unchanged("erase() of nothing", () -> writtenBehind(TWO, ""), y -> y.erase(), 0);
    }

    private static void fault() {
        Check.sentence("The place of the FAULT (the byte with which the TOKEN begins, or the length); NONE.");
        faultAt(0, "sites");
        faultAt(5, "site;sites");
        faultAt(7, "soft 1 234");
        faultAt(5, "jacks");
        faultAt(4, "soft");
        stands("soft 1");
    }

    private static void site() {
        Check.sentence("THE TEXT's LINES are done, and it is empty then: how many there were. NOT: it has a FAULT.");
        TopDownTowers x = holding(4);
        Check.due("one", x.site(), 1);
        Check.due("empty then", x.count(11), 0);
        Check.due("an empty one", x.site(), NOT);
        Check.write(x, ELEVEN_LINES + "site");
        Check.due("twelve", x.site(), 12);
        Check.due("empty then", x.count(11), 0);
        faultAt(13, TWO, "site;jacks 7;x");
        faultAt(11, TWO, "room 9 9 9;");
    }

    private static void storey() {
        Check.sentence("KIND (what 0: 0 ROOM, 1 ROOF, 2 CELLAR, 3 BELLS), WEIGHT (1), STRENGTH (2), HEIGHT (3), FOLK (4). "
            + "UNKNOWN; OUTSIDE.");
        Supplier<TopDownTowers> two = () -> Check.towerOf("room 1 1 1;bells 12 34 5;folk 1 67");
        int[] due = {3, 12, 34, 5, 67};
        for (int what = 0; what <= 4; what++) {
            int asked = what;
            Twins.unchanged("storey(1, " + what + ")", two, x -> x.storey(1, asked), due[what]);
        }
        for (int what : new int[] {-1, 5, Integer.MIN_VALUE, Integer.MAX_VALUE}) {
            Twins.unchanged("storey(1, " + what + ")", two, x -> x.storey(1, what), OUTSIDE);
            Twins.unchanged("storey(2, " + what + ")", two, x -> x.storey(2, what), UNKNOWN);
        }
        for (int none : new int[] {-1, 2, Integer.MIN_VALUE, Integer.MAX_VALUE}) {
            Twins.unchanged("storey(" + none + ", 0)", two, x -> x.storey(none, 0), UNKNOWN);
        }
    }

    private static void as() {
        Check.sentence("A STOREY taken as a KIND (0 .. 4, as they are over one another): its WEIGHT and FOLK. "
            + "UNKNOWN; OUTSIDE; NOT: it is none such.");
        Supplier<TopDownTowers> four = () -> Check.towerOf("room 1 1 1;roof 2 1 1;cellar 3 1 1;bells 4 1 1;folk 0 99");
        int[][] due = {{100, 100, NOT, NOT, NOT}, {2, 2, 2, NOT, NOT}, {3, 3, NOT, 3, NOT}, {4, NOT, NOT, NOT, 4}};
        for (int s = 0; s < 4; s++) {
            for (int kind = 0; kind <= 4; kind++) {
                int storey = s;
                int asked = kind;
                Twins.unchanged("as(" + s + ", " + kind + ")", four, x -> x.as(storey, asked), due[s][kind]);
            }
        }
        for (int kind : new int[] {-1, 5, Integer.MIN_VALUE, Integer.MAX_VALUE}) {
            Twins.unchanged("as(3, " + kind + ")", four, x -> x.as(3, kind), OUTSIDE);
            Twins.unchanged("as(4, " + kind + ")", four, x -> x.as(4, kind), UNKNOWN);
        }
        for (int none : new int[] {-1, 4, Integer.MIN_VALUE, Integer.MAX_VALUE}) {
            Twins.unchanged("as(" + none + ", 0)", four, x -> x.as(none, 0), UNKNOWN);
        }
    }
}
