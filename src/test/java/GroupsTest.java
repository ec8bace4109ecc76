/** Promises 8 to 10: groups that join, change and leave. */
public final class GroupsTest {
    private static final Checks CHECKS = new Checks();

    public static void main(String[] args) {
        promise8Join();
        promise8JoinRefuses();
        promise8JoinRefusesTheFirstNamed();
        promise8NinetyGroups();
        promise9Change();
        promise9ChangeKeepsThePatience();
        promise9ChangeOfAShutLane();
        promise9ChangeRefuses();
        promise10Leave();
        promise10LeaveRefuses();
        CHECKS.end();
    }

    private static ChairLift lanes(int many) {
        ChairLift lift = new ChairLift();
        for (int lane = 0; lane < many; lane++) {
            lift.addLane();
        }
        return lift;
    }

    /** Groups: 0 has left, 1 is up, 2 rides, 3 waits; the step is 3. */
    private static ChairLift oneInEachState() {
        ChairLift lift = lanes(2);
        lift.stretch(2);
        lift.addChair(2);
        lift.addChair(1);
        lift.want(2);
        lift.join(0, 3, 1);
        lift.join(1, 2, 200);
        lift.pass(1);
        lift.join(1, 1, 200);
        lift.join(1, 1, 200);
        lift.pass(2);
        return lift;
    }

    private static void promise8Join() {
        ChairLift lift = lanes(3);
        CHECKS.same("the first one", lift.join(2, 6, 200), 0);
        CHECKS.same("the second one", lift.join(2, 1, 1), 1);
        lift.pass(1);
        CHECKS.same("the third one", lift.join(0, 2, 7), 2);
        CHECKS.same("the fourth one", lift.join(2, 4, 9), 3);
        CHECKS.same("group 0", Checks.group(lift, 0), "6 200 0 2 -1 0 -1 0");
        CHECKS.same("group 1", Checks.group(lift, 1), "1 1 3 -1 -1 0 -1 0");
        CHECKS.same("group 2", Checks.group(lift, 2), "2 7 0 0 -1 1 -1 0");
        CHECKS.same("group 3", Checks.group(lift, 3), "4 9 0 2 -1 1 -1 0");
        CHECKS.same("queue 2", Checks.queue(lift, 2), "0 3");
        CHECKS.same("queue 1", Checks.queue(lift, 1), "");
        CHECKS.same("queue 0", Checks.queue(lift, 0), "2");
        CHECKS.same("groups", lift.count(4), 4);
    }

    private static void promise8JoinRefuses() {
        ChairLift none = lanes(0);
        CHECKS.refusesIndex("join without lanes", none, x -> x.join(0, 1, 1));
        ChairLift lift = lanes(3);
        lift.join(1, 1, 200);
        for (int lane : new int[] {Integer.MIN_VALUE, -1, 3, 4, Integer.MAX_VALUE}) {
            CHECKS.refusesIndex("join of no lane", lift, x -> x.join(lane, 1, 1));
        }
        for (int size : new int[] {Integer.MIN_VALUE, -1, 0, 7, Integer.MAX_VALUE}) {
            CHECKS.refusesArgument("join of a wrong size", lift, x -> x.join(0, size, 1));
        }
        for (int patience : new int[] {Integer.MIN_VALUE, -1, 0, 201, Integer.MAX_VALUE}) {
            CHECKS.refusesArgument("join of a wrong patience", lift, x -> x.join(0, 1, patience));
        }
        lift.shut(0, true);
        CHECKS.refusesState("join of a shut lane", lift, x -> x.join(0, 6, 200));
        CHECKS.same("an open lane beside it", lift.join(1, 6, 200), 1);
        lift.shut(0, false);
        CHECKS.same("the lane when it is open", lift.join(0, 6, 200), 2);
    }

    private static void promise8JoinRefusesTheFirstNamed() {
        ChairLift lift = lanes(1);
        lift.shut(0, true);
        CHECKS.refusesIndex("join(1, 0, 0)", lift, x -> x.join(1, 0, 0));
        CHECKS.refusesIndex("join(-1, 1, 201)", lift, x -> x.join(-1, 1, 201));
        CHECKS.refusesArgument("join(0, 7, 1) of a shut lane", lift, x -> x.join(0, 7, 1));
        CHECKS.refusesArgument("join(0, 1, 0) of a shut lane", lift, x -> x.join(0, 1, 0));
    }

    private static void promise8NinetyGroups() {
        ChairLift lift = lanes(2);
        for (int group = 0; group < 90; group++) {
            CHECKS.same("number of the group", lift.join(0, 1 + group % 6, 200), group);
            CHECKS.same("its place", lift.queue(0, group), group);
        }
        CHECKS.refusesState("join with 90", lift, x -> x.join(0, 1, 1));
        CHECKS.refusesState("join with 90, other lane", lift, x -> x.join(1, 1, 1));
        CHECKS.refusesIndex("join of no lane with 90", lift, x -> x.join(2, 1, 1));
        CHECKS.refusesArgument("join of a wrong size with 90", lift, x -> x.join(0, 0, 1));
        for (int group = 0; group < 90; group += 2) {
            CHECKS.same("places ahead in the other lane", lift.change(group, 1), group / 2);
        }
        for (int group = 0; group < 90; group++) {
            CHECKS.same("places ahead in one lane", lift.change(group, 0), 45 + group / 2);
        }
        lift.leave(5);
        CHECKS.refusesState("join with 90 of which one has left", lift, x -> x.join(0, 1, 1));
    }

    private static void promise9Change() {
        ChairLift lift = lanes(3);
        for (int group = 0; group < 4; group++) {
            lift.join(0, group + 1, 200);
        }
        lift.pass(1);
        CHECKS.same("to an empty lane", lift.change(1, 2), 0);
        CHECKS.same("to its end", lift.change(3, 2), 1);
        CHECKS.same("queue 0", Checks.queue(lift, 0), "0 2");
        CHECKS.same("queue 2", Checks.queue(lift, 2), "1 3");
        CHECKS.same("group 3", Checks.group(lift, 3), "4 200 0 2 -1 0 -1 0");
        CHECKS.same("from the head of its own", lift.change(0, 0), 1);
        CHECKS.same("queue 0", Checks.queue(lift, 0), "2 0");
        CHECKS.same("from the end of its own", lift.change(0, 0), 1);
        CHECKS.same("queue 0", Checks.queue(lift, 0), "2 0");
        lift.change(2, 1);
        CHECKS.same("alone in its own", lift.change(0, 0), 0);
        CHECKS.same("lane 0", Checks.lane(lift, 0), "1 1 0 0");
        CHECKS.same("lane 1", Checks.lane(lift, 1), "1 3 0 0");
        CHECKS.same("lane 2", Checks.lane(lift, 2), "2 6 0 0");
        CHECKS.same("the turn", lift.count(10), 0);
    }

    private static void promise9ChangeKeepsThePatience() {
        ChairLift lift = lanes(2);
        lift.join(0, 1, 3);
        lift.pass(2);
        lift.change(0, 1);
        CHECKS.same("it waits", lift.group(0, 2), 0);
        lift.pass(1);
        CHECKS.same("group 0", Checks.group(lift, 0), "1 3 3 -1 -1 0 -1 0");
        CHECKS.same("queue 1", Checks.queue(lift, 1), "");
    }

    private static void promise9ChangeOfAShutLane() {
        ChairLift lift = lanes(2);
        lift.join(0, 1, 200);
        lift.join(0, 1, 200);
        lift.shut(0, true);
        CHECKS.refusesState("change to its own lane, shut", lift, x -> x.change(0, 0));
        CHECKS.same("change from a shut lane", lift.change(0, 1), 0);
        CHECKS.refusesState("change to a shut lane", lift, x -> x.change(0, 0));
    }

    private static void promise9ChangeRefuses() {
        ChairLift lift = oneInEachState();
        CHECKS.same("the states", Checks.row(lift.group(0, 2), lift.group(1, 2), lift.group(2, 2), lift.group(3, 2)),
                "3 2 1 0");
        for (int group = 0; group < 3; group++) {
            int number = group;
            CHECKS.refusesState("change of one that does not wait", lift, x -> x.change(number, 0));
        }
        for (int number : new int[] {Integer.MIN_VALUE, -1, 4, 90, Integer.MAX_VALUE}) {
            CHECKS.refusesIndex("change of no group", lift, x -> x.change(number, 0));
        }
        for (int lane : new int[] {Integer.MIN_VALUE, -1, 2, 4, Integer.MAX_VALUE}) {
            CHECKS.refusesIndex("change to no lane", lift, x -> x.change(3, lane));
            CHECKS.refusesIndex("change to no lane of one that does not wait", lift, x -> x.change(0, lane));
        }
        lift.shut(0, true);
        CHECKS.refusesIndex("change of no group to a shut lane", lift, x -> x.change(4, 0));
        CHECKS.same("change of the one that waits", lift.change(3, 1), 0);
    }

    private static void promise10Leave() {
        ChairLift lift = lanes(2);
        for (int group = 0; group < 4; group++) {
            lift.join(1, group + 1, 200);
        }
        CHECKS.same("from the middle", lift.leave(1), 1);
        CHECKS.same("queue 1", Checks.queue(lift, 1), "0 2 3");
        CHECKS.same("from the head", lift.leave(0), 1);
        CHECKS.same("queue 1", Checks.queue(lift, 1), "2 3");
        CHECKS.same("from the end", lift.leave(3), 1);
        CHECKS.same("queue 1", Checks.queue(lift, 1), "2");
        lift.change(2, 0);
        lift.shut(0, true);
        CHECKS.same("from where it went, shut", lift.leave(2), 0);
        CHECKS.same("group 2", Checks.group(lift, 2), "3 200 3 -1 -1 0 -1 0");
        CHECKS.same("people who have left", lift.count(8), 10);
        CHECKS.same("people who wait", lift.count(5), 0);
        CHECKS.same("groups", lift.count(4), 4);
    }

    private static void promise10LeaveRefuses() {
        ChairLift lift = oneInEachState();
        for (int group = 0; group < 3; group++) {
            int number = group;
            CHECKS.refusesState("leave of one that does not wait", lift, x -> x.leave(number));
        }
        for (int number : new int[] {Integer.MIN_VALUE, -1, 4, 90, Integer.MAX_VALUE}) {
            CHECKS.refusesIndex("leave of no group", lift, x -> x.leave(number));
        }
        CHECKS.same("leave of the one that waits", lift.leave(3), 1);
        CHECKS.refusesState("leave of the one that has left", lift, x -> x.leave(3));
    }
}
