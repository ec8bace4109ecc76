/** Promises 11 to 15 and 17: what is there, and how much. */
public final class LookTest {
    private static final Checks CHECKS = new Checks();
    private static final int[] FAR_OFF = {Integer.MIN_VALUE, -1000, -1, 1000, Integer.MAX_VALUE};

    public static void main(String[] args) {
        promise11GroupThroughItsDay();
        promise11GroupRefuses();
        promise12ChairThroughItsRound();
        promise12ChairRefuses();
        promise13Lane();
        promise13LaneRefuses();
        promise14Queue();
        promise14QueueRefuses();
        promise15Shed();
        promise15ShedRefuses();
        promise17Count();
        promise17CountRefuses();
        CHECKS.end();
    }

    private static ChairLift small() {
        ChairLift lift = new ChairLift();
        lift.stretch(2);
        lift.addLane();
        lift.addLane();
        lift.addChair(5);
        lift.addChair(2);
        lift.want(1);
        return lift;
    }

    private static void promise11GroupThroughItsDay() {
        ChairLift lift = small();
        lift.pass(3);
        lift.setWind(5, 8);
        lift.setWind(6, 9);
        lift.join(1, 3, 77);
        CHECKS.same("it waits", Checks.group(lift, 0), "3 77 0 1 -1 3 -1 0");
        lift.pass(1);
        CHECKS.same("no chair yet", Checks.group(lift, 0), "3 77 0 1 -1 3 -1 0");
        lift.setWind(4, 0);
        lift.pass(1);
        CHECKS.same("it rides", Checks.group(lift, 0), "3 77 1 -1 0 3 -1 0");
        lift.pass(1);
        CHECKS.same("it is colder", Checks.group(lift, 0), "3 77 1 -1 0 3 -1 1");
        lift.pass(2);
        CHECKS.same("it is colder still", Checks.group(lift, 0), "3 77 1 -1 0 3 -1 2");
        lift.pass(1);
        CHECKS.same("it is up", Checks.group(lift, 0), "3 77 2 -1 -1 3 8 2");
        lift.pass(100);
        CHECKS.same("it stays so", Checks.group(lift, 0), "3 77 2 -1 -1 3 8 2");
    }

    private static void promise11GroupRefuses() {
        ChairLift lift = small();
        CHECKS.refusesIndex("group(0, 0) without groups", lift, x -> x.group(0, 0));
        lift.join(0, 1, 1);
        CHECKS.refusesIndex("group(1, 0)", lift, x -> x.group(1, 0));
        CHECKS.refusesIndex("group(0, 8)", lift, x -> x.group(0, 8));
        for (int far : FAR_OFF) {
            CHECKS.refusesIndex("group far off", lift, x -> x.group(far, 0));
            CHECKS.refusesIndex("group of what far off", lift, x -> x.group(0, far));
        }
    }

    private static void promise12ChairThroughItsRound() {
        ChairLift lift = small();
        lift.join(0, 2, 200);
        lift.join(1, 1, 200);
        lift.join(0, 2, 200);
        lift.join(0, 4, 200);
        CHECKS.same("in the shed", Checks.chair(lift, 0), "5 -1 0 0 0");
        lift.pass(1);
        CHECKS.same("at the valley", Checks.chair(lift, 0), "5 0 5 3 5");
        CHECKS.same("the other one", Checks.chair(lift, 1), "2 -1 0 0 0");
        lift.pass(1);
        CHECKS.same("on its way up", Checks.chair(lift, 0), "5 1 5 3 5");
        lift.pass(1);
        CHECKS.same("at the top", Checks.chair(lift, 0), "5 2 0 0 5");
        lift.pass(1);
        CHECKS.same("on its way down", Checks.chair(lift, 0), "5 3 0 0 5");
        lift.pass(1);
        CHECKS.same("at the valley again", Checks.chair(lift, 0), "5 0 4 1 9");
        lift.want(0);
        lift.pass(4);
        CHECKS.same("in the shed again", Checks.chair(lift, 0), "5 -1 0 0 9");
    }

    private static void promise12ChairRefuses() {
        ChairLift lift = small();
        CHECKS.refusesIndex("chair(2, 0)", lift, x -> x.chair(2, 0));
        CHECKS.refusesIndex("chair(0, 5)", lift, x -> x.chair(0, 5));
        for (int far : FAR_OFF) {
            CHECKS.refusesIndex("chair far off", lift, x -> x.chair(far, 0));
            CHECKS.refusesIndex("chair of what far off", lift, x -> x.chair(0, far));
        }
    }

    private static void promise13Lane() {
        ChairLift lift = small();
        lift.join(1, 3, 200);
        lift.join(1, 6, 200);
        lift.join(1, 1, 3);
        lift.join(0, 2, 200);
        lift.shut(1, true);
        CHECKS.same("lane 0", Checks.lane(lift, 0), "1 2 0 0");
        CHECKS.same("lane 1", Checks.lane(lift, 1), "3 10 1 0");
        lift.pass(1);
        CHECKS.same("lane 0 when they ride", Checks.lane(lift, 0), "0 0 0 2");
        CHECKS.same("lane 1 when they ride", Checks.lane(lift, 1), "2 7 1 3");
        lift.pass(2);
        CHECKS.same("lane 1 when one has left", Checks.lane(lift, 1), "1 6 1 3");
        lift.change(1, 0);
        CHECKS.same("lane 0 when one came", Checks.lane(lift, 0), "1 6 0 2");
        lift.leave(1);
        CHECKS.same("lane 0 when it left", Checks.lane(lift, 0), "0 0 0 2");
        CHECKS.same("lane 1 when it left", Checks.lane(lift, 1), "0 0 1 3");
    }

    private static void promise13LaneRefuses() {
        ChairLift lift = small();
        CHECKS.refusesIndex("lane(2, 0)", lift, x -> x.lane(2, 0));
        CHECKS.refusesIndex("lane(0, 4)", lift, x -> x.lane(0, 4));
        for (int far : FAR_OFF) {
            CHECKS.refusesIndex("lane far off", lift, x -> x.lane(far, 0));
            CHECKS.refusesIndex("lane of what far off", lift, x -> x.lane(0, far));
        }
    }

    private static void promise14Queue() {
        ChairLift lift = small();
        lift.join(0, 1, 200);
        lift.join(1, 2, 200);
        lift.join(0, 3, 2);
        lift.join(0, 6, 200);
        CHECKS.same("queue(0, 0)", lift.queue(0, 0), 0);
        CHECKS.same("queue(0, 1)", lift.queue(0, 1), 2);
        CHECKS.same("queue(0, 2)", lift.queue(0, 2), 3);
        CHECKS.same("queue(1, 0)", lift.queue(1, 0), 1);
        lift.pass(1);
        CHECKS.same("queue 0 behind a step", Checks.queue(lift, 0), "2 3");
        lift.pass(1);
        CHECKS.same("queue 0 behind two", Checks.queue(lift, 0), "3");
    }

    private static void promise14QueueRefuses() {
        ChairLift lift = small();
        lift.join(0, 1, 200);
        lift.join(0, 6, 200);
        CHECKS.refusesIndex("queue(0, 2)", lift, x -> x.queue(0, 2));
        CHECKS.refusesIndex("queue(1, 0)", lift, x -> x.queue(1, 0));
        CHECKS.refusesIndex("queue(2, 0)", lift, x -> x.queue(2, 0));
        for (int far : FAR_OFF) {
            CHECKS.refusesIndex("queue far off", lift, x -> x.queue(far, 0));
            CHECKS.refusesIndex("queue of a place far off", lift, x -> x.queue(0, far));
        }
        lift.pass(1);
        CHECKS.same("the first one", lift.queue(0, 0), 1);
        CHECKS.refusesIndex("queue(0, 1) when one rides", lift, x -> x.queue(0, 1));
    }

    private static void promise15Shed() {
        ChairLift lift = small();
        lift.addChair(3);
        CHECKS.same("the shed", Checks.shed(lift), "0 1 2");
        lift.want(2);
        lift.pass(1);
        CHECKS.same("the shed behind a step", Checks.shed(lift), "1 2");
        lift.pass(1);
        CHECKS.same("the shed behind two", Checks.shed(lift), "2");
        lift.want(1);
        lift.pass(3);
        CHECKS.same("the first one is back", Checks.shed(lift), "2 0");
        lift.addChair(4);
        CHECKS.same("a new one at the end", Checks.shed(lift), "2 0 3");
    }

    private static void promise15ShedRefuses() {
        ChairLift lift = small();
        CHECKS.refusesIndex("shed(2)", lift, x -> x.shed(2));
        for (int far : FAR_OFF) {
            CHECKS.refusesIndex("shed far off", lift, x -> x.shed(far));
        }
        lift.pass(1);
        CHECKS.same("shed(0)", lift.shed(0), 1);
        CHECKS.refusesIndex("shed(1) with one on the rope", lift, x -> x.shed(1));
    }

    private static void promise17Count() {
        ChairLift lift = small();
        lift.setWind(1, 9);
        lift.setWind(3, 6);
        lift.join(0, 3, 200);
        lift.join(1, 2, 200);
        lift.join(0, 6, 200);
        lift.join(1, 4, 2);
        CHECKS.same("at first", Checks.counts(lift), "0 2 0 2 4 15 0 0 0 0 0 0 2");
        lift.pass(1);
        CHECKS.same("two groups ride", Checks.counts(lift), "1 2 1 2 4 10 5 0 0 0 0 0 2");
        lift.pass(1);
        CHECKS.same("they are cold, one has left", Checks.counts(lift), "2 2 1 2 4 6 5 0 4 1 0 5 2");
        lift.pass(3);
        CHECKS.same("they are up", Checks.counts(lift), "5 2 1 2 4 6 0 5 4 2 0 5 2");
        lift.leave(2);
        lift.join(0, 1, 200);
        lift.pass(3);
        CHECKS.same("one more rides", Checks.counts(lift), "8 2 1 2 5 0 1 5 10 2 1 5 2");
    }

    private static void promise17CountRefuses() {
        ChairLift lift = small();
        CHECKS.refusesIndex("count(13)", lift, x -> x.count(13));
        for (int far : FAR_OFF) {
            CHECKS.refusesIndex("count far off", lift, x -> x.count(far));
        }
    }
}
