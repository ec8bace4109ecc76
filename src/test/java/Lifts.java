/** Lifts that several tests start from. */
final class Lifts {
    private Lifts() {
    }

    /** A rope of 4 places, with this many lanes, and a chair for each number of seats, all of them wanted. */
    static ChairLift lift(int lanes, int... seats) {
        ChairLift lift = new ChairLift();
        lift.stretch(2);
        for (int lane = 0; lane < lanes; lane++) {
            lift.addLane();
        }
        for (int chair : seats) {
            lift.addChair(chair);
        }
        lift.want(seats.length);
        return lift;
    }

    static void join(ChairLift lift, int lane, int... sizes) {
        for (int size : sizes) {
            lift.join(lane, size, 200);
        }
    }
}
