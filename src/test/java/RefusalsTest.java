import java.util.ArrayList;
import java.util.List;

/**
 * Calls that are refused: for the state that the lift is in, with the exception that the document names first where
 * several apply; and a lift that has refused goes on like one that never had to.
 */
public final class RefusalsTest {
    private static final Checks CHECKS = new Checks();
    private static final int[] NO_LANES = {-1, 4, Integer.MIN_VALUE, Integer.MAX_VALUE};
    private static final int[] NO_GROUPS = {-1, 90, Integer.MIN_VALUE, Integer.MAX_VALUE};
    private static final int[] WRONG_SIZES = {0, 7};
    private static final int[] WRONG_PATIENCES = {0, 201};

    // Groups of full(), one in each state.
    private static final int UP = 0;
    private static final int RIDES = 3;
    private static final int WAITS = 12;
    private static final int LEFT = 5;

    public static void main(String[] args) {
        theLiftIsFull();
        promise2ArgumentBeforeState();
        promise2StateForEachHalf();
        promise3ArgumentBeforeState();
        promise3StateForEachSeats();
        promise5State();
        promise7IndexBeforeArgument();
        promise8IndexBeforeArgumentAndState();
        promise8ArgumentBeforeState();
        promise8StateOfAShutLane();
        promise8StateOfNinetyGroups();
        promise9IndexBeforeState();
        promise9State();
        promise10State();
        promise18ArgumentBeforeIndex();
        refusedCallsChangeNothingThatComesLater();
        CHECKS.end();
    }

    /** 20 chairs of which 3 are on the rope, 4 lanes of which the lane 1 is shut, 90 groups; the step is 3. */
    private static ChairLift full() {
        ChairLift lift = new ChairLift();
        lift.stretch(2);
        for (int chair = 0; chair < 20; chair++) {
            lift.addChair(6);
        }
        for (int lane = 0; lane < 4; lane++) {
            lift.addLane();
        }
        for (int group = 0; group < 90; group++) {
            lift.join(group % 4, 2, group == LEFT ? 1 : 30 + group);
        }
        lift.shut(1, true);
        lift.setWind(7, 9);
        lift.want(3);
        lift.pass(3);
        return lift;
    }

    /** One chair and one group fewer than there may be; the lane 1 is shut. */
    private static ChairLift open() {
        ChairLift lift = Lifts.withAll(19, 4, 89);
        lift.shut(1, true);
        return lift;
    }

    private static void theLiftIsFull() {
        ChairLift lift = full();
        CHECKS.same("chairs, on the rope, lanes, groups", Checks.row(lift.count(1), lift.count(2), lift.count(3),
                lift.count(4)), "20 3 4 90");
        CHECKS.same("the states", Checks.row(lift.group(UP, 2), lift.group(RIDES, 2), lift.group(WAITS, 2),
                lift.group(LEFT, 2)), "2 1 0 3");
    }

    private static void promise2ArgumentBeforeState() {
        ChairLift lift = full();
        for (int half : new int[] {Integer.MIN_VALUE, -1, 0, 1, 13, 14, Integer.MAX_VALUE}) {
            CHECKS.refusesArgument("stretch(" + half + ") with chairs on the rope", lift, x -> x.stretch(half));
        }
    }

    private static void promise2StateForEachHalf() {
        ChairLift lift = full();
        for (int number = 2; number <= 12; number++) {
            int half = number;
            CHECKS.refusesState("stretch(" + half + ") with chairs on the rope", lift, x -> x.stretch(half));
        }
    }

    private static void promise3ArgumentBeforeState() {
        ChairLift lift = full();
        for (int seats : new int[] {Integer.MIN_VALUE, -1, 0, 7, 8, Integer.MAX_VALUE}) {
            CHECKS.refusesArgument("addChair(" + seats + ") with 20", lift, x -> x.addChair(seats));
        }
    }

    private static void promise3StateForEachSeats() {
        ChairLift lift = open();
        lift.addChair(1);
        for (int number = 1; number <= 6; number++) {
            int seats = number;
            CHECKS.refusesState("addChair(" + seats + ") with 20", lift, x -> x.addChair(seats));
            CHECKS.refusesState("addChair(" + seats + ") with 3 of 20 on the rope", full(), x -> x.addChair(seats));
        }
    }

    private static void promise5State() {
        ChairLift lift = Lifts.withAll(1, 3, 3);
        CHECKS.same("the last lane", lift.addLane(), 3);
        CHECKS.refusesState("addLane() with 4", lift, x -> x.addLane());
        for (int lane = 0; lane < 4; lane++) {
            lift.shut(lane, true);
        }
        CHECKS.refusesState("addLane() with 4 that are shut", lift, x -> x.addLane());
    }

    private static void promise7IndexBeforeArgument() {
        ChairLift lift = full();
        for (int at : new int[] {Integer.MIN_VALUE, -1, 24, Integer.MAX_VALUE}) {
            for (int wind : new int[] {Integer.MIN_VALUE, -1, 10, Integer.MAX_VALUE}) {
                CHECKS.refusesIndex("setWind(" + at + ", " + wind + ")", lift, x -> x.setWind(at, wind));
            }
        }
    }

    private static void promise8IndexBeforeArgumentAndState() {
        for (ChairLift lift : new ChairLift[] {open(), full()}) {
            for (int lane : NO_LANES) {
                CHECKS.refusesIndex("join of no lane", lift, x -> x.join(lane, 1, 1));
                for (int size : WRONG_SIZES) {
                    CHECKS.refusesIndex("join of no lane, wrong size", lift, x -> x.join(lane, size, 1));
                }
                for (int patience : WRONG_PATIENCES) {
                    CHECKS.refusesIndex("join of no lane, wrong patience", lift, x -> x.join(lane, 1, patience));
                    CHECKS.refusesIndex("join of no lane, all wrong", lift, x -> x.join(lane, 0, patience));
                }
            }
        }
    }

    private static void promise8ArgumentBeforeState() {
        // The lane 1 is shut in both; the second one has 90 groups too.
        for (ChairLift lift : new ChairLift[] {open(), full()}) {
            for (int size : WRONG_SIZES) {
                CHECKS.refusesArgument("join of a shut lane, wrong size", lift, x -> x.join(1, size, 1));
                CHECKS.refusesArgument("join, wrong size", lift, x -> x.join(0, size, 1));
                CHECKS.refusesArgument("join, both wrong", lift, x -> x.join(1, size, 201));
            }
            for (int patience : WRONG_PATIENCES) {
                CHECKS.refusesArgument("join of a shut lane, wrong patience", lift, x -> x.join(1, 1, patience));
                CHECKS.refusesArgument("join, wrong patience", lift, x -> x.join(0, 1, patience));
            }
        }
    }

    private static void promise8StateOfAShutLane() {
        ChairLift lift = open();
        CHECKS.refusesState("join of a shut lane", lift, x -> x.join(1, 1, 1));
        CHECKS.refusesState("join of a shut lane, greatest", lift, x -> x.join(1, 6, 200));
        lift.leave(1);
        CHECKS.refusesState("join of a shut lane that one has left", lift, x -> x.join(1, 1, 1));
        CHECKS.same("join of the one beside it", lift.join(2, 1, 1), 89);
    }

    private static void promise8StateOfNinetyGroups() {
        ChairLift lift = open();
        CHECKS.same("the last group", lift.join(0, 1, 1), 89);
        for (int lane = 0; lane < 4; lane++) {
            int number = lane;
            CHECKS.refusesState("join with 90, lane " + lane, lift, x -> x.join(number, 1, 1));
            CHECKS.refusesState("join with 90, lane " + lane, full(), x -> x.join(number, 6, 200));
        }
        for (int group = 0; group < 90; group++) {
            lift.leave(group);
        }
        CHECKS.refusesState("join with 90 that have left", lift, x -> x.join(0, 1, 1));
    }

    private static void promise9IndexBeforeState() {
        ChairLift lift = full();
        for (int group : new int[] {UP, RIDES, LEFT, WAITS}) {
            for (int lane : NO_LANES) {
                CHECKS.refusesIndex("change of " + group + " to no lane", lift, x -> x.change(group, lane));
            }
        }
        for (int group : NO_GROUPS) {
            CHECKS.refusesIndex("change of no group", lift, x -> x.change(group, 0));
            CHECKS.refusesIndex("change of no group to a shut lane", lift, x -> x.change(group, 1));
            CHECKS.refusesIndex("change of no group to no lane", lift, x -> x.change(group, 4));
        }
    }

    private static void promise9State() {
        ChairLift lift = full();
        for (int group : new int[] {UP, RIDES, LEFT}) {
            CHECKS.refusesState("change of " + group, lift, x -> x.change(group, 0));
            CHECKS.refusesState("change of " + group + " to a shut lane", lift, x -> x.change(group, 1));
        }
        CHECKS.refusesState("change of one that waits to a shut lane", lift, x -> x.change(WAITS, 1));
        CHECKS.same("the lane of the group 17", lift.group(17, 3), 1);
        CHECKS.refusesState("change of one that waits to its own lane, shut", lift, x -> x.change(17, 1));
        lift.shut(1, false);
        CHECKS.takes("change to the lane that is open again", lift, x -> x.change(WAITS, 1));
    }

    private static void promise10State() {
        ChairLift lift = full();
        for (int group : new int[] {UP, RIDES, LEFT}) {
            CHECKS.refusesState("leave of " + group, lift, x -> x.leave(group));
        }
        CHECKS.same("leave of one that waits", lift.leave(WAITS), 0);
        CHECKS.refusesState("leave again", lift, x -> x.leave(WAITS));
    }

    private static void promise18ArgumentBeforeIndex() {
        ChairLift lift = full();
        for (int steps : new int[] {Integer.MIN_VALUE, -1, 0, 151, Integer.MAX_VALUE}) {
            for (int what : new int[] {Integer.MIN_VALUE, -1, 3, Integer.MAX_VALUE}) {
                CHECKS.refusesArgument("foresee(" + steps + ", " + what + ")", lift, x -> x.foresee(steps, what));
            }
        }
    }

    /** A call of each kind that full() refuses. */
    private static List<Checks.Call> refusedByFull() {
        List<Checks.Call> calls = new ArrayList<>(List.of(
                x -> x.stretch(1), x -> x.stretch(13), x -> x.stretch(2), x -> x.stretch(12),
                x -> x.addChair(0), x -> x.addChair(7), x -> x.addChair(1), x -> x.want(-1), x -> x.want(21)));
        calls.addAll(List.of(x -> x.addLane(), x -> x.shut(-1, true), x -> x.shut(4, true), x -> x.setWind(-1, 9),
                x -> x.setWind(24, 9), x -> x.setWind(0, -1), x -> x.setWind(0, 10)));
        calls.addAll(List.of(x -> x.join(-1, 1, 9), x -> x.join(4, 1, 9), x -> x.join(0, 0, 9), x -> x.join(0, 7, 9),
                x -> x.join(0, 1, 0), x -> x.join(0, 1, 201), x -> x.join(1, 1, 9), x -> x.join(0, 1, 9)));
        calls.addAll(List.of(x -> x.change(-1, 0), x -> x.change(90, 0), x -> x.change(WAITS, -1),
                x -> x.change(WAITS, 4), x -> x.change(WAITS, 1), x -> x.change(17, 1), x -> x.change(UP, 0),
                x -> x.change(RIDES, 0), x -> x.change(LEFT, 0)));
        calls.addAll(List.of(x -> x.leave(-1), x -> x.leave(90), x -> x.leave(UP), x -> x.leave(RIDES),
                x -> x.leave(LEFT), x -> x.group(90, 0), x -> x.group(0, 8), x -> x.chair(20, 0), x -> x.chair(0, 5)));
        calls.addAll(List.of(x -> x.lane(4, 0), x -> x.lane(0, 4), x -> x.queue(4, 0), x -> x.queue(0, 90),
                x -> x.shed(17), x -> x.pass(0), x -> x.pass(201), x -> x.count(13), x -> x.when(90)));
        calls.addAll(List.of(x -> x.foresee(0, 0), x -> x.foresee(151, 0), x -> x.foresee(1, 3), x -> x.advise(0),
                x -> x.advise(7), x -> x.needs(0, 1), x -> x.needs(501, 1), x -> x.needs(1, 0), x -> x.needs(1, 101)));
        return calls;
    }

    private static void refusedCallsChangeNothingThatComesLater() {
        String due = later(full());
        ChairLift lift = full();
        int refused = 0;
        for (Checks.Call call : refusedByFull()) {
            ChairLift once = full();
            refused += isRefused(once, call) ? 1 : 0;
            isRefused(lift, call);
            CHECKS.same("what comes behind the refused call " + refused, later(once), due);
        }
        CHECKS.same("refused calls", refused, refusedByFull().size());
        CHECKS.same("what comes behind all refused calls", later(lift), due);
    }

    private static boolean isRefused(ChairLift lift, Checks.Call call) {
        try {
            call.on(lift);
            return false;
        } catch (RuntimeException e) {
            return true;
        }
    }

    /** What is foreseen, and what a day is like in which all that a refused call could have touched is used. */
    private static String later(ChairLift lift) {
        StringBuilder text = new StringBuilder();
        for (int what = 0; what < 3; what++) {
            text.append(lift.foresee(150, what)).append(' ');
        }
        for (int group = 0; group < 90; group++) {
            text.append(lift.when(group)).append(' ');
        }
        text.append(lift.advise(1)).append(' ').append(lift.needs(100, 30)).append(' ').append(Checks.allOf(lift));
        for (int round = 0; round < 10; round++) {
            text.append(' ').append(lift.pass(7)).append(' ').append(Checks.allOf(lift));
        }
        lift.want(0);
        text.append(' ').append(lift.pass(30)).append(' ').append(lift.stretch(3)).append(' ');
        lift.want(20);
        return text.append(lift.pass(30)).append(' ').append(Checks.allOf(lift)).toString();
    }
}
