import java.util.ArrayList;
import java.util.List;
import java.util.function.Supplier;
import java.util.function.ToLongFunction;

/** Every refusal of every call, in towers that hold nothing, something, and as much as can be: nothing changes by it. */
public final class RefusedTest {
    private static final int UNKNOWN = -2, OUTSIDE = -3, NOT = -4, FULL = -5;

    private record Call(String name, ToLongFunction<TopDownTowers> does, long due) {
    }

    /** As many refused calls behind one another as an object's 512 calls leave room for. */
    private static final int TOGETHER = 40;

    private final List<Call> refused = new ArrayList<>();

    private RefusedTest() {
    }

    public static void main(String[] args) {
        Check.sentence("Refused, and nothing changes: UNKNOWN (no such STOREY), OUTSIDE (another number is not as told), "
            + "NOT (not now: as told), FULL: the first of these that fits.");
        RefusedTest nothing = new RefusedTest();
        nothing.always(0, 0);
        nothing.withNothing();
        nothing.lookAt("nothing", TopDownTowers::new);
        RefusedTest something = new RefusedTest();
        something.always(5, 2);
        something.withSomething();
        something.lookAt("something", RefusedTest::something);
        RefusedTest all = new RefusedTest();
        all.always(8, 8);
        all.withAll();
        all.lookAt("all", RefusedTest::all);
        Check.sentence("======== 3 FORETOLD, nothing changes.");
        foretold("nothing", TopDownTowers::new);
        foretold("something", RefusedTest::something);
        foretold("all", RefusedTest::all);
        Check.end("RefusedTest");
    }

    /** Two of five are up; a STOREY of each WHY, a text that could be done. */
    private static TopDownTowers something() {
        TopDownTowers x = Check.towerOf(
            "room 20 99 1;roof 10 0 2;cellar 30 99 3;bells 5 15 4;room 9 99 5;folk 0 3;above 4 2;soft 4;wind 3 5 9");
        x.keep(0);
        x.lift(1);
        x.lift(0);
        x.seen(1, 2);
        x.row(1);
        x.row(0);
        Check.write(x, "jacks 32;wind 0 0 9");
        return x;
    }

    /** All eight are up, on the last DAY, and nothing has room for more. */
    private static TopDownTowers all() {
        String room = "room 1 99 9";
        TopDownTowers x = Check.towerOf(String.join(";", room, room, room, room, room, room, room, "bells 1 99 9"));
        Check.tell(x, "above 7 6;above 7 5;above 7 4;above 7 3;above 7 2;above 7 1;above 7 0;above 7 0");
        for (int s = 7; s >= 0; s--) {
            Check.due("lift(" + s + ")", x.lift(s), 8 - s);
            Check.due("row(" + s + ")", x.row(s), 8 - s);
            Check.due("seen", x.seen(0, 0), 8 - s);
        }
        x.keep(0);
        for (int i = 0; i < 100; i++) {
            x.rest(99);
        }
        Check.due("the last DAY", x.rest(91), 9999);
        x.keep(1);
        Check.write(x, "jacks 7;soft".concat(" ".repeat(188)));
        return x;
    }

    private void refuse(String name, ToLongFunction<TopDownTowers> does, long due) {
        refused.add(new Call(name, does, due));
    }

    /** Refused wherever there are so many STOREYS, so many of them up. */
    private void always(int storeys, int up) {
        int[] noStoreys = {-1, storeys, Integer.MIN_VALUE, Integer.MAX_VALUE};
        for (int s : noStoreys) {
            unknown(s);
        }
        int[] far = {Integer.MIN_VALUE, Integer.MAX_VALUE};
        for (int n : far) {
            outside(n);
            refuse("seen(" + n + ", 0)", x -> x.seen(n, 0), OUTSIDE);
        }
        outside(-1);
        refuse("write(0, 0)", x -> x.write(0, 0), OUTSIDE);
        refuse("write(0, 9)", x -> x.write(0, 9), OUTSIDE);
        refuse("rest(0)", x -> x.rest(0), OUTSIDE);
        refuse("rest(100)", x -> x.rest(100), OUTSIDE);
        refuse("up(-1)", x -> x.up(-1), OUTSIDE);
        refuse("keep(2)", x -> x.keep(2), UNKNOWN);
        refuse("back(2)", x -> x.back(2), UNKNOWN);
        refuse("orders(-2)", x -> x.orders(-2), OUTSIDE);
        refuse("tallest(2)", x -> x.tallest(2), OUTSIDE);
        refuse("soonest(0)", x -> x.soonest(0), OUTSIDE);
        refuse("soonest(9)", x -> x.soonest(9), OUTSIDE);
        refuse("judge(2)", x -> x.judge(2), OUTSIDE);
        refuse("seen(-1, 0)", x -> x.seen(-1, 0), OUTSIDE);
        refuse("seen(all, 0)", x -> x.seen(up, 0), OUTSIDE);
        refuse("count(12)", x -> x.count(12), OUTSIDE);
    }

    /** No such STOREY, the other numbers as told and not. */
    private void unknown(int s) {
        for (int other : new int[] {0, -1, 99}) {
            refuse("storey(" + s + ", " + other + ")", x -> x.storey(s, other), UNKNOWN);
            refuse("as(" + s + ", " + other + ")", x -> x.as(s, other), UNKNOWN);
            refuse("in(" + s + ", " + other + ")", x -> x.in(s, other), UNKNOWN);
            refuse("fits(" + s + ", " + other + ")", x -> x.fits(s, other), UNKNOWN);
        }
        refuse("why(" + s + ")", x -> x.why(s), UNKNOWN);
        refuse("lift(" + s + ")", x -> x.lift(s), UNKNOWN);
        refuse("floor(" + s + ")", x -> x.floor(s), UNKNOWN);
        refuse("without(" + s + ")", x -> x.without(s), UNKNOWN);
        refuse("row(" + s + ")", x -> x.row(s), UNKNOWN);
    }

    /** Numbers that are as told nowhere. */
    private void outside(int n) {
        refuse("write(-1, " + n + ")", x -> x.write(-1, n), OUTSIDE);
        refuse("rest(" + n + ")", x -> x.rest(n), OUTSIDE);
        refuse("keep(" + n + ")", x -> x.keep(n), UNKNOWN);
        refuse("back(" + n + ")", x -> x.back(n), UNKNOWN);
        refuse("tallest(" + n + ")", x -> x.tallest(n), OUTSIDE);
        refuse("soonest(" + n + ")", x -> x.soonest(n), OUTSIDE);
        refuse("odds(" + n + ", 0, 0, 0)", x -> x.odds(n, 0, 0, 0), OUTSIDE);
        refuse("odds(0, " + n + ", 0, 0)", x -> x.odds(0, n, 0, 0), OUTSIDE);
        refuse("odds(0, 0, " + n + ", 0)", x -> x.odds(0, 0, n, 0), OUTSIDE);
        refuse("odds(0, 0, 0, " + n + ")", x -> x.odds(0, 0, 0, n), OUTSIDE);
        refuse("judge(" + n + ")", x -> x.judge(n), OUTSIDE);
        refuse("seen(0, " + n + ")", x -> x.seen(0, n), OUTSIDE);
        refuse("count(" + n + ")", x -> x.count(n), OUTSIDE);
    }

    private void withNothing() {
        refuse("site()", x -> x.site(), NOT);
        refuse("back(0)", x -> x.back(0), NOT);
        refuse("back(1)", x -> x.back(1), NOT);
        refuse("seen(0, 1000)", x -> x.seen(0, 1000), OUTSIDE);
    }

    private void withSomething() {
        outsideOf(1);
        refuse("as(1, 3)", x -> x.as(1, 3), NOT);
        refuse("as(3, 1)", x -> x.as(3, 1), NOT);
        for (int s = 0; s <= 3; s++) {
            int cannot = s;
            refuse("lift(" + s + ")", x -> x.lift(cannot), NOT);
        }
        refuse("back(1)", x -> x.back(1), NOT);
        refuse("without(4)", x -> x.without(4), NOT);
        refuse("in(0, 0)", x -> x.in(0, 0), NOT);
        refuse("in(1, 2)", x -> x.in(1, 2), NOT);
        refuse("in(0, 3)", x -> x.in(0, 3), OUTSIDE);
        refuse("in(4, 3)", x -> x.in(4, 3), OUTSIDE);
    }

    private void outsideOf(int s) {
        for (int n : new int[] {-1, 5, Integer.MIN_VALUE, Integer.MAX_VALUE}) {
            refuse("storey(" + s + ", " + n + ")", x -> x.storey(s, n), OUTSIDE);
            refuse("as(" + s + ", " + n + ")", x -> x.as(s, n), OUTSIDE);
            refuse("fits(" + s + ", " + n + ")", x -> x.fits(s, n), OUTSIDE);
        }
        for (int i : new int[] {-1, 9, Integer.MIN_VALUE, Integer.MAX_VALUE}) {
            refuse("in(" + s + ", " + i + ")", x -> x.in(s, i), OUTSIDE);
        }
        refuse("fits(" + s + ", 3)", x -> x.fits(s, 3), OUTSIDE);
        refuse("seen(0, 1000)", x -> x.seen(0, 1000), OUTSIDE);
    }

    private void withAll() {
        outsideOf(7);
        refuse("write(0, 1)", x -> x.write(0, 1), FULL);
        refuse("write(0, 8)", x -> x.write(0, 8), FULL);
        refuse("site()", x -> x.site(), NOT);
        refuse("as(7, 1)", x -> x.as(7, 1), NOT);
        for (int s = 0; s < 8; s++) {
            int isUp = s;
            refuse("lift(" + s + ")", x -> x.lift(isUp), NOT);
            refuse("in(" + s + ", 8)", x -> x.in(isUp, 8), NOT);
            refuse("row(" + s + ")", x -> x.row(isUp), FULL);
            refuse("seen(" + s + ", 0)", x -> x.seen(isUp, 0), FULL);
        }
        refuse("rest(1)", x -> x.rest(1), FULL);
        refuse("rest(99)", x -> x.rest(99), FULL);
    }

    private void lookAt(String held, Supplier<TopDownTowers> making) {
        for (Call call : refused) {
            Twins.unchanged(held + ", " + call.name, making, call.does, call.due);
        }
        for (int from = 0; from < refused.size(); from += TOGETHER) {
            List<Call> together = refused.subList(from, Math.min(from + TOGETHER, refused.size()));
            Twins.unchanged(held + ", one behind the other", making, x -> callAll(held, together, x), 0);
        }
    }

    private static long callAll(String held, List<Call> calls, TopDownTowers x) {
        for (Call call : calls) {
            Check.due(held + ", among others " + call.name, call.does.applyAsLong(x), call.due);
        }
        return 0;
    }

    private static void foretold(String held, Supplier<TopDownTowers> making) {
        Twins.unchanged(held + ", all that is foretold", making, RefusedTest::foretellAll, 0);
    }

    private static long foretellAll(TopDownTowers x) {
        for (int i = -1; i <= 8; i++) {
            x.orders(i);
            x.soonest(i);
            x.without(i);
            x.in(i, i);
            x.odds(18, 9, i, 0);
        }
        x.tallest(0);
        x.tallest(1);
        x.jacks();
        return 0;
    }
}
