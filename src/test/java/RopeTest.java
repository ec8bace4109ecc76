/** Promises 1 to 7: a new object, and the rope, the chairs, the lanes and the wind. */
public final class RopeTest {
    private static final Checks CHECKS = new Checks();
    private static final int[] FAR_OFF = {Integer.MIN_VALUE, -1000, -1, 1000, Integer.MAX_VALUE};

    public static void main(String[] args) {
        promise1NewObject();
        promise1ObjectsAreApart();
        promise2Stretch();
        promise2StretchRefuses();
        promise2StretchSetsTheWayOfTheChairs();
        promise3AddChair();
        promise3AddChairRefuses();
        promise4Want();
        promise4WantMovesChairs();
        promise5AddLane();
        promise6Shut();
        promise7SetWind();
        promise7SetWindRefuses();
        CHECKS.end();
    }

    private static void promise1NewObject() {
        ChairLift lift = new ChairLift();
        CHECKS.same("counts of a new lift", Checks.counts(lift), "0 0 0 0 0 0 0 0 0 0 0 0 6");
        CHECKS.same("mean of a new lift", lift.mean(), 0.0);
        CHECKS.same("wanted of a new lift", lift.want(0), 0);
        for (int at = 0; at < 24; at++) {
            CHECKS.same("wind of a new lift", lift.setWind(at, 0), 0);
        }
        CHECKS.refusesIndex("group of a new lift", lift, x -> x.group(0, 0));
        CHECKS.refusesIndex("chair of a new lift", lift, x -> x.chair(0, 0));
        CHECKS.refusesIndex("lane of a new lift", lift, x -> x.lane(0, 0));
        CHECKS.refusesIndex("queue of a new lift", lift, x -> x.queue(0, 0));
        CHECKS.refusesIndex("shed of a new lift", lift, x -> x.shed(0));
        CHECKS.same("pass of a new lift", lift.pass(200), 0);
        CHECKS.same("counts behind 200 steps", Checks.counts(lift), "200 0 0 0 0 0 0 0 0 0 0 0 6");
    }

    private static void promise1ObjectsAreApart() {
        ChairLift one = new ChairLift();
        ChairLift other = new ChairLift();
        long before = other.digest();
        one.addLane();
        one.addChair(2);
        one.setWind(0, 9);
        one.stretch(3);
        one.join(0, 1, 5);
        one.pass(3);
        CHECKS.same("the digest of another lift", other.digest(), before);
    }

    private static void promise2Stretch() {
        ChairLift lift = new ChairLift();
        int before = 6;
        for (int half = 2; half <= 12; half++) {
            CHECKS.same("half before", lift.stretch(half), before);
            CHECKS.same("half after", lift.count(12), half);
            before = half;
        }
        CHECKS.same("half before", lift.stretch(12), 12);
    }

    private static void promise2StretchRefuses() {
        ChairLift lift = new ChairLift();
        CHECKS.refusesArgument("stretch(1)", lift, x -> x.stretch(1));
        CHECKS.refusesArgument("stretch(13)", lift, x -> x.stretch(13));
        for (int half : FAR_OFF) {
            CHECKS.refusesArgument("stretch far off", lift, x -> x.stretch(half));
        }
        lift.addChair(1);
        CHECKS.same("half with a chair in the shed", lift.stretch(2), 6);
        lift.want(1);
        lift.pass(1);
        CHECKS.refusesState("stretch(3) with a chair on the rope", lift, x -> x.stretch(3));
        CHECKS.refusesState("stretch(2) with a chair on the rope", lift, x -> x.stretch(2));
        CHECKS.refusesArgument("stretch(13) with a chair on the rope", lift, x -> x.stretch(13));
        lift.want(0);
        lift.pass(3);
        CHECKS.refusesState("stretch(3) a step before the valley", lift, x -> x.stretch(3));
        lift.pass(1);
        CHECKS.same("half when the chair is back", lift.stretch(3), 2);
    }

    private static void promise2StretchSetsTheWayOfTheChairs() {
        for (int half = 2; half <= 12; half++) {
            ChairLift lift = new ChairLift();
            lift.addLane();
            lift.addChair(1);
            lift.want(1);
            lift.stretch(half);
            lift.join(0, 1, 200);
            CHECKS.same("the way up", lift.when(0), half + 1);
            lift.pass(2 * half);
            CHECKS.same("the last place", lift.chair(0, 1), 2 * half - 1);
            lift.pass(1);
            CHECKS.same("the place behind the last", lift.chair(0, 1), 0);
            CHECKS.same("the step of the top", lift.group(0, 6), half);
        }
    }

    private static void promise3AddChair() {
        ChairLift lift = new ChairLift();
        for (int chair = 0; chair < 20; chair++) {
            int seats = chair % 6 + 1;
            CHECKS.same("number of the chair", lift.addChair(seats), chair);
            CHECKS.same("the new chair", Checks.chair(lift, chair), Checks.row(seats, -1, 0, 0, 0));
            CHECKS.same("chairs", lift.count(1), chair + 1);
            CHECKS.same("chairs on the rope", lift.count(2), 0);
            CHECKS.same("the end of the shed", lift.shed(chair), chair);
        }
    }

    private static void promise3AddChairRefuses() {
        ChairLift lift = new ChairLift();
        CHECKS.refusesArgument("addChair(0)", lift, x -> x.addChair(0));
        CHECKS.refusesArgument("addChair(7)", lift, x -> x.addChair(7));
        for (int seats : FAR_OFF) {
            CHECKS.refusesArgument("addChair far off", lift, x -> x.addChair(seats));
        }
        for (int chair = 0; chair < 20; chair++) {
            lift.addChair(6);
        }
        CHECKS.refusesState("addChair(1) with 20", lift, x -> x.addChair(1));
        CHECKS.refusesArgument("addChair(0) with 20", lift, x -> x.addChair(0));
        CHECKS.refusesArgument("addChair(7) with 20", lift, x -> x.addChair(7));
        lift.want(1);
        lift.pass(1);
        CHECKS.refusesState("addChair(1) with one of 20 on the rope", lift, x -> x.addChair(1));
    }

    private static void promise4Want() {
        ChairLift lift = new ChairLift();
        int before = 0;
        for (int many = 20; many >= 0; many--) {
            CHECKS.same("wanted before", lift.want(many), before);
            before = many;
        }
        lift.want(7);
        CHECKS.refusesArgument("want(21)", lift, x -> x.want(21));
        for (int many : FAR_OFF) {
            CHECKS.refusesArgument("want far off", lift, x -> x.want(many));
        }
        CHECKS.same("wanted after refusals", lift.want(0), 7);
    }

    private static void promise4WantMovesChairs() {
        ChairLift lift = new ChairLift();
        lift.addChair(1);
        lift.addChair(2);
        lift.addChair(3);
        lift.stretch(2);
        lift.want(2);
        CHECKS.same("the rope before a step", lift.count(2), 0);
        lift.pass(1);
        CHECKS.same("the shed behind a step", Checks.shed(lift), "1 2");
        lift.pass(1);
        CHECKS.same("the shed behind two steps", Checks.shed(lift), "2");
        lift.pass(20);
        CHECKS.same("as many as wanted stay", Checks.shed(lift), "2");
        lift.want(20);
        lift.pass(4);
        CHECKS.same("all come if more are wanted", Checks.shed(lift), "");
        CHECKS.same("all are on the rope", lift.count(2), 3);
        lift.want(0);
        lift.pass(4);
        CHECKS.same("none stays if none is wanted", lift.count(2), 0);
        // The places were 1, 0 and 3 when none was wanted any more: the chair 2 is the first one at the valley.
        CHECKS.same("the order of the row in the shed", Checks.shed(lift), "2 0 1");
        CHECKS.same("a chair in the shed", Checks.chair(lift, 2), "3 -1 0 0 0");
    }

    private static void promise5AddLane() {
        ChairLift lift = new ChairLift();
        for (int lane = 0; lane < 4; lane++) {
            CHECKS.same("number of the lane", lift.addLane(), lane);
            CHECKS.same("the new lane", Checks.lane(lift, lane), "0 0 0 0");
            CHECKS.same("lanes", lift.count(3), lane + 1);
            CHECKS.same("the turn", lift.count(10), 0);
        }
        CHECKS.refusesState("addLane() with 4", lift, x -> x.addLane());
        CHECKS.refusesState("addLane() with 4 again", lift, x -> x.addLane());
    }

    private static void promise6Shut() {
        ChairLift lift = new ChairLift();
        CHECKS.refusesIndex("shut(0) without lanes", lift, x -> x.shut(0, true));
        lift.addLane();
        lift.addLane();
        CHECKS.isTrue("a new lane is not shut", !lift.shut(1, false));
        CHECKS.isTrue("nor if it stays open", !lift.shut(1, true));
        CHECKS.isTrue("it was shut", lift.shut(1, true));
        CHECKS.same("lane(1, 2)", lift.lane(1, 2), 1);
        CHECKS.same("lane(0, 2)", lift.lane(0, 2), 0);
        CHECKS.refusesState("join of the shut lane", lift, x -> x.join(1, 1, 1));
        CHECKS.isTrue("it was shut still", lift.shut(1, false));
        CHECKS.same("join of the open lane", lift.join(1, 1, 9), 0);
        for (int lane : new int[] {Integer.MIN_VALUE, -1, 2, 3, 4, Integer.MAX_VALUE}) {
            CHECKS.refusesIndex("shut of no lane", lift, x -> x.shut(lane, true));
        }
        lift.shut(1, true);
        lift.addChair(1);
        lift.want(1);
        lift.pass(1);
        CHECKS.same("who stands in a shut lane rides", lift.group(0, 2), 1);
    }

    private static void promise7SetWind() {
        ChairLift lift = new ChairLift();
        for (int at = 0; at < 24; at++) {
            for (int wind = 0; wind <= 9; wind++) {
                CHECKS.same("wind before", lift.setWind(at, wind), wind == 0 ? 0 : wind - 1);
            }
        }
        lift.pass(48);
        CHECKS.same("all stood", lift.count(9), 48);
        for (int at = 0; at < 24; at++) {
            CHECKS.same("wind before", lift.setWind(at, at % 10), 9);
        }
        for (int at = 0; at < 24; at++) {
            CHECKS.same("each step has its own wind", lift.setWind(at, 0), at % 10);
        }
    }

    private static void promise7SetWindRefuses() {
        ChairLift lift = new ChairLift();
        lift.setWind(23, 4);
        CHECKS.refusesIndex("setWind(24, 0)", lift, x -> x.setWind(24, 0));
        CHECKS.refusesIndex("setWind(24, 10)", lift, x -> x.setWind(24, 10));
        CHECKS.refusesIndex("setWind(-1, -1)", lift, x -> x.setWind(-1, -1));
        CHECKS.refusesArgument("setWind(23, 10)", lift, x -> x.setWind(23, 10));
        CHECKS.refusesArgument("setWind(0, -1)", lift, x -> x.setWind(0, -1));
        for (int far : FAR_OFF) {
            CHECKS.refusesIndex("setWind at far off", lift, x -> x.setWind(far, 0));
            CHECKS.refusesArgument("setWind of far off", lift, x -> x.setWind(0, far));
        }
        CHECKS.same("wind after refusals", lift.setWind(23, 0), 4);
    }
}
