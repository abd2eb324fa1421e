import java.util.ArrayList;
import java.util.List;
import java.util.function.Supplier;
import java.util.function.ToLongFunction;

/** Two towers made by the same calls, one of them called once more: no later call may tell them apart. */
final class Twins {
    private final TopDownTowers x;
    private final List<String> answers = new ArrayList<>();

    private Twins(TopDownTowers x) {
        this.x = x;
    }

    /** The call answers what is due, and leaves all as it was. */
    static void unchanged(String call, Supplier<TopDownTowers> making, ToLongFunction<TopDownTowers> once, long due) {
        TopDownTowers called = making.get();
        Check.due(call, once.applyAsLong(called), due);
        List<String> got = new Twins(called).askAll();
        List<String> want = new Twins(making.get()).askAll();
        for (int i = 0; i < want.size(); i++) {
            if (!got.get(i).equals(want.get(i))) {
                Check.holds("behind " + call + " it is " + got.get(i) + ", without it " + want.get(i), false);
                return;
            }
        }
        Check.holds(call + " changes nothing", got.size() == want.size());
    }

    /** Some three hundred calls: with those that made the tower, fewer than an object is used for. */
    private List<String> askAll() {
        askTold();
        askTower();
        askForetold();
        askRowAndSeen();
        askKept();
        note("fault", x.fault());
        note("site", x.site());
        askTold();
        note("erase", x.erase());
        return answers;
    }

    private void note(String call, long answer) {
        answers.add(call + " " + answer);
    }

    private void askTold() {
        for (int what = 0; what <= 11; what++) {
            note("count(" + what + ")", x.count(what));
        }
        for (int s = 0; s < 8; s++) {
            for (int what = 0; what <= 4; what++) {
                note("storey(" + s + ", " + what + ")", x.storey(s, what));
            }
            note("soonest(" + (s + 1) + ")", x.soonest(s + 1));
        }
    }

    private void askTower() {
        note("up", x.count(4));
        note("DAY", x.count(5));
        note("SEEN", x.count(10));
        for (int s = 0; s < 8; s++) {
            note("why(" + s + ")", x.why(s));
            note("up(" + s + ")", x.up(s));
        }
    }

    private void askForetold() {
        int many = x.count(4);
        for (int s = 0; s < 8; s++) {
            note("orders(" + s + ")", x.orders(s));
            note("floor(" + s + ")", x.floor(s));
            note("without(" + s + ")", x.without(s));
            note("in(" + s + ", 0)", x.in(s, 0));
            note("in(" + s + ", all)", x.in(s, many));
        }
        note("orders", x.orders(-1));
        note("tallest(0)", x.tallest(0));
        note("tallest(1)", x.tallest(1));
        note("jacks", x.jacks());
    }

    private void askRowAndSeen() {
        for (int s = 0; s < 8; s++) {
            for (int what = 0; what <= 2; what++) {
                note("fits(" + s + ", " + what + ")", x.fits(s, what));
            }
        }
        for (int s = 0; s < 8; s++) {
            note("judge(0)", x.judge(0));
            note("judge(1)", x.judge(1));
            note("row(" + s + ")", x.row(s));
        }
        note("burn", x.burn());
    }

    private void askKept() {
        for (int k = 0; k <= 1; k++) {
            note("back(" + k + ")", x.back(k));
            askTower();
        }
        note("forget", x.forget());
    }
}
