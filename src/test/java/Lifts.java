/** Lifts that several tests start from. */
final class Lifts {
    private Lifts() {
    }

    /** A rope of 4 places, with this many lanes, and a chair for each number of seats, all of them wanted. */
    static ChairLift lift(int lanes, int... seats) {
        ChairLift lift = new ChairLift();
        lift.stretch(2);
        for (int lane = 0; lane < lanes; lane++) {
            lift.addLane();
        }
        for (int chair : seats) {
            lift.addChair(chair);
        }
        lift.want(seats.length);
        return lift;
    }

    /** A lift with this many of all, and nothing wanted: the chairs in the shed, the groups in the lanes by turns. */
    static ChairLift withAll(int chairs, int lanes, int groups) {
        ChairLift lift = new ChairLift();
        for (int chair = 0; chair < chairs; chair++) {
            lift.addChair(6);
        }
        for (int lane = 0; lane < lanes; lane++) {
            lift.addLane();
        }
        for (int group = 0; group < groups; group++) {
            lift.join(group % lanes, 6, 200);
        }
        return lift;
    }

    /** A wind that lets the rope move in one of 24 steps. */
    static void moveOnlyAt(ChairLift lift, int step) {
        for (int at = 0; at < 24; at++) {
            lift.setWind(at, at == step ? 0 : 9);
        }
    }

    static void join(ChairLift lift, int lane, int... sizes) {
        for (int size : sizes) {
            lift.join(lane, size, 200);
        }
    }
}
