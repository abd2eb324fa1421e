import java.util.Random;

/** Rows of calls by chance (always the same ones), each answer compared with the plain model's. */
public final class ModelTest {
    /** The last text that is told begins ahead of this many calls, so that it ends within an object's 512. */
    private static final int RUNS = 1500, CALLS = 400;
    private static final String[] WORDS = {"site", "room", "roof", "cellar", "bells", "folk", "jacks", "soft", "wind", "above"};

    private final Random chance;
    private final TopDownTowers x = new TopDownTowers();
    private final PlainModel model = new PlainModel();
    private final StringBuilder calls = new StringBuilder();
    private final boolean isHeavy;
    /** Some runs tell much, some leave what is told as it is for long. */
    private final int tellsOneIn;
    private int made;

    private ModelTest(long seed) {
        chance = new Random(seed);
        isHeavy = chance.nextInt(3) == 0;
        tellsOneIn = 8 + 10 * chance.nextInt(5);
    }

    public static void main(String[] args) {
        int runs = args.length > 0 ? Integer.parseInt(args[0]) : RUNS;
        for (int run = 0; run < runs; run++) {
            new ModelTest(run).play();
        }
        allOdds();
        Check.end("ModelTest");
    }

    private static void allOdds() {
        PlainModel model = new PlainModel();
        for (int d = -1; d <= 19; d++) {
            for (int k = -1; k <= 19; k++) {
                TopDownTowers x = new TopDownTowers();
                for (int p = -1; p <= 11; p++) {
                    for (int part = -1; part <= 2; part++) {
                        String call = "odds(" + d + ", " + k + ", " + p + ", " + part + ")";
                        Check.due(call, x.odds(d, k, p, part), model.odds(d, k, p, part));
                    }
                }
            }
        }
    }

    private void play() {
        tellSome();
        while (made < CALLS) {
            if (chance.nextInt(tellsOneIn) == 0) {
                tellSome();
            } else {
                callOne();
            }
        }
        Check.holds("calls of one object", made <= 512);
    }

    private void same(String call, long got, long want) {
        made++;
        calls.append(call).append(' ');
        Check.due(got == want ? call : calls.toString(), got, want);
    }

    private int below(int bound) {
        return chance.nextInt(bound);
    }

    /** A number of those told, now and then one just outside, or any one at all. */
    private int about(int least, int greatest) {
        switch (below(40)) {
            case 0:
                return least - 1;
            case 1:
                return greatest + 1;
            case 2:
                return chance.nextInt();
            case 3:
                return below(2) == 0 ? Integer.MIN_VALUE : Integer.MAX_VALUE;
            default:
                return least + below(greatest - least + 1);
        }
    }

    private void tellSome() {
        StringBuilder text = new StringBuilder();
        boolean isClean = below(4) != 0;
        int lines = 1 + below(isClean ? 6 : 13);
        if (below(6) == 0) {
            text.append("site;");
        }
        for (int i = 0; i < lines; i++) {
            text.append(i == 0 ? "" : ";").append(line(isClean));
        }
        if (!isClean) {
            spoil(text);
        }
        writeAll(text.toString());
        same("fault()", x.fault(), model.fault());
        int done = x.site();
        same("site()", done, model.site());
        if (done == TopDownTowers.NOT) {
            same("erase()", x.erase(), model.erase());
        }
    }

    private void writeAll(String text) {
        calls.append('"').append(text).append("\" ");
        for (int from = 0; from < text.length();) {
            int n = Math.min(1 + below(8), text.length() - from);
            long bytes = Check.packed(text, from, n);
            if (n < 8) {
                bytes |= chance.nextLong() << 8 * n;
            }
            same("write(" + n + ")", x.write(bytes, n), model.write(bytes, n));
            from += n;
        }
    }

    private String line(boolean isClean) {
        int n = model.count(0);
        int word = below(3) == 0 ? 1 + below(4) : below(WORDS.length * 6) / 6;
        if (word == 0 && below(4) != 0 || isClean && n == 0 && (word == 5 || word == 9)) {
            word = 1;
        }
        if (isClean && n >= 8 - 3 && word >= 1 && word <= 4) {
            word = 7;
        }
        int day = below(12);
        switch (WORDS[word]) {
            case "site":
                return "site";
            case "folk":
                return numbers("folk", below(n + 1 - (isClean ? 1 : 0)), below(30));
            case "jacks":
                return numbers("jacks", isHeavy ? below(300) : 100 + below(900));
            case "soft":
                return numbers("soft", 1 + below(isHeavy ? 99 : 12));
            case "wind":
                return numbers("wind", day, day + below(4) - (isClean ? 0 : 1), below(2) == 0 ? 9 : below(10));
            case "above":
                int t = below(n + 1 - (isClean ? 1 : 0));
                return numbers("above", t, isClean && n > 1 ? (t + 1 + below(n - 1)) % n : below(n + 2));
            default:
                return numbers(WORDS[word], 1 + below(isHeavy ? 99 : 40), below(isHeavy ? 400 : 1000), 1 + below(9));
        }
    }

    private String numbers(String word, int... all) {
        StringBuilder line = new StringBuilder(word);
        for (int number : all) {
            line.append(" ".repeat(1 + (below(20) == 0 ? 1 : 0))).append(below(20) == 0 ? "0" : "").append(number);
        }
        return line.toString();
    }

    private void spoil(StringBuilder text) {
        for (int times = below(3); times > 0; times--) {
            int at = below(text.length() + 1);
            String signs = " ;059az:\0-A`{/" + (char) 255 + (char) 233;
            if (below(2) == 0) {
                text.insert(at, signs.charAt(below(signs.length())));
            } else if (at < text.length()) {
                text.deleteCharAt(at);
            }
        }
    }

    private void callOne() {
        int storey = about(0, Math.max(0, model.count(0) - 1));
        int which = below(28);
        if (which < 10) {
            callOfDays(which, storey);
        } else if (which < 18) {
            callOfForetold(which, storey);
        } else {
            callOfRows(which, storey);
        }
    }

    private void callOfDays(int which, int s) {
        int n;
        switch (which) {
            case 0:
                n = about(0, 4);
                same("storey(" + s + ", " + n + ")", x.storey(s, n), model.storey(s, n));
                return;
            case 1:
                n = about(0, 4);
                same("as(" + s + ", " + n + ")", x.as(s, n), model.as(s, n));
                return;
            case 2:
                same("why(" + s + ")", x.why(s), model.why(s));
                return;
            case 3:
                n = below(3) == 0 ? about(1, 99) : 1;
                same("rest(" + n + ")", x.rest(n), model.rest(n));
                return;
            case 4:
                n = about(0, 8);
                same("up(" + n + ")", x.up(n), model.up(n));
                return;
            case 5:
                same("floor(" + s + ")", x.floor(s), model.floor(s));
                return;
            case 6:
                n = about(0, 1);
                same("keep(" + n + ")", x.keep(n), model.keep(n));
                return;
            case 7:
                n = about(0, 1);
                same("back(" + n + ")", x.back(n), model.back(n));
                return;
            default:
                same("lift(" + s + ")", x.lift(s), model.lift(s));
        }
    }

    private void callOfForetold(int which, int s) {
        int n;
        switch (which) {
            case 10:
                n = about(-1, 8);
                same("orders(" + n + ")", x.orders(n), model.orders(n));
                return;
            case 11:
                n = about(0, 1);
                same("tallest(" + n + ")", x.tallest(n), model.tallest(n));
                return;
            case 12:
                same("jacks()", x.jacks(), model.jacks());
                return;
            case 13:
                n = about(1, 8);
                same("soonest(" + n + ")", x.soonest(n), model.soonest(n));
                return;
            case 14:
                same("without(" + s + ")", x.without(s), model.without(s));
                return;
            case 15:
                n = about(0, model.count(4));
                same("in(" + s + ", " + n + ")", x.in(s, n), model.in(s, n));
                return;
            default:
                same("lift(" + s + ")", x.lift(s), model.lift(s));
        }
    }

    private void callOfRows(int which, int s) {
        int n;
        switch (which) {
            case 18:
            case 19:
                same("row(" + s + ")", x.row(s), model.row(s));
                return;
            case 20:
                n = about(0, 1);
                same("judge(" + n + ")", x.judge(n), model.judge(n));
                return;
            case 21:
            case 22:
            case 23:
                n = about(0, Math.max(0, model.count(4) - 1));
                int g = inches(n);
                same("seen(" + n + ", " + g + ")", x.seen(n, g), model.seen(n, g));
                return;
            case 24:
            case 25:
                n = about(0, 2);
                same("fits(" + s + ", " + n + ")", x.fits(s, n), model.fits(s, n));
                return;
            case 26:
                n = about(0, 11);
                same("count(" + n + ")", x.count(n), model.count(n));
                return;
            default:
                emptyOne();
        }
    }

    /** Mostly about as many as the jacks gave at that LIFT: else no WEIGHT would ever fit. */
    private int inches(int i) {
        if (below(8) == 0) {
            return about(0, 999);
        }
        int load = 0;
        for (int j = 0; j < i && model.up(j) >= 0; j++) {
            load += model.as(model.up(j), 0);
        }
        return Math.max(0, (load + below(25) - 12) / model.count(2));
    }

    private void emptyOne() {
        if (below(2) == 0) {
            same("burn()", x.burn(), model.burn());
        } else {
            same("forget()", x.forget(), model.forget());
        }
    }
}
