/** The edges of a step: the top and the valley with a chair or none, seats that are left, the end of the patience. */
public final class StepEdgesTest {
    private static final Checks CHECKS = new Checks();

    public static void main(String[] args) {
        topWithoutChair();
        topWithAChairThatNobodyIsOn();
        valleyAsManyAsWanted();
        valleyOneMoreThanWanted();
        valleyOneMoreThanWantedButNoneThere();
        valleyOneFewerThanWanted();
        valleyOneFewerThanWantedButOneThere();
        valleyFewerThanWantedAndNoneInTheShed();
        valleyTheChairThatComesLoads();
        valleyTheChairThatStaysLoads();
        standsAndDoesNotLoad();
        standsAndDoesNotTakeOff();
        standsAndDoesNotPutOn();
        seatsAreEnoughOrNot();
        seatsThatAreLeftAreEnoughOrNot();
        seatsAreFullWithSix();
        roundBeginsAtTheTurn();
        roundFromTheLastLane();
        roundWithOneLaneOnly();
        roundTurnStaysWithEmptyQueues();
        patienceEndsWithTheLastStep();
        patienceOfOneInTheStepOfComing();
        patienceAndAChairInTheLastStep();
        patienceAfterAChange();
        patienceFirstMiddleAndLastOfAQueue();
        passUpInTheLastStep();
        passCountsPeople();
        CHECKS.end();
    }

    // ---- the top

    private static void topWithoutChair() {
        ChairLift lift = Lifts.lift(1, 1);
        Lifts.join(lift, 0, 1);
        CHECKS.same("none at the top in the steps 0 and 1", lift.pass(2), 0);
        CHECKS.same("one at the top in the step 2", lift.pass(1), 1);
        CHECKS.same("none at the top in the steps 3 to 5", lift.pass(3), 0);
        CHECKS.same("it was up", lift.group(0, 6), 2);
    }

    private static void topWithAChairThatNobodyIsOn() {
        ChairLift lift = Lifts.lift(1, 1);
        CHECKS.same("nobody comes up", lift.pass(3), 0);
        CHECKS.same("the chair at the top", Checks.chair(lift, 0), "1 2 0 0 0");
        CHECKS.same("nobody is up", lift.count(7), 0);
        CHECKS.same("the mean", lift.mean(), 0.0);
    }

    // ---- the valley

    private static void valleyAsManyAsWanted() {
        ChairLift lift = Lifts.lift(0, 1, 1);
        lift.want(1);
        lift.pass(1);
        for (int round = 0; round < 3; round++) {
            lift.pass(3);
            CHECKS.same("no second one when none is there", Checks.shed(lift), "1");
            lift.pass(1);
            CHECKS.same("it does not go when it is there", Checks.shed(lift), "1");
            CHECKS.same("its place", lift.chair(0, 1), 0);
        }
    }

    private static void valleyOneMoreThanWanted() {
        ChairLift lift = Lifts.lift(0, 1, 1, 1);
        lift.pass(4);
        lift.want(2);
        lift.pass(1);
        CHECKS.same("the one that is there goes", Checks.shed(lift), "0");
        lift.pass(8);
        CHECKS.same("no other one", Checks.shed(lift), "0");
    }

    private static void valleyOneMoreThanWantedButNoneThere() {
        ChairLift lift = Lifts.lift(0, 1, 1);
        lift.pass(2);
        lift.want(1);
        lift.pass(2);
        CHECKS.same("none goes before it is at the valley", lift.count(2), 2);
        lift.pass(1);
        CHECKS.same("then it goes", Checks.shed(lift), "0");
    }

    private static void valleyOneFewerThanWanted() {
        ChairLift lift = Lifts.lift(0, 1, 1);
        lift.want(1);
        lift.pass(2);
        lift.want(2);
        lift.pass(1);
        CHECKS.same("the first one of the shed comes", lift.chair(1, 1), 0);
        CHECKS.same("the place of the other one", lift.chair(0, 1), 2);
    }

    private static void valleyOneFewerThanWantedButOneThere() {
        ChairLift lift = Lifts.lift(0, 1, 1);
        lift.want(1);
        lift.pass(4);
        lift.want(2);
        lift.pass(1);
        CHECKS.same("the chair that is there", lift.chair(0, 1), 0);
        CHECKS.same("the other one waits in the shed", lift.chair(1, 1), -1);
        lift.pass(1);
        CHECKS.same("a step later it comes", lift.chair(1, 1), 0);
    }

    private static void valleyFewerThanWantedAndNoneInTheShed() {
        ChairLift lift = Lifts.lift(1, 1);
        lift.want(2);
        Lifts.join(lift, 0, 1, 1);
        lift.pass(2);
        CHECKS.same("one is on the rope", lift.count(2), 1);
        CHECKS.same("who waits", lift.count(5), 1);
        CHECKS.same("it takes who waits in its next round", lift.when(1), 5);
    }

    private static void valleyTheChairThatComesLoads() {
        ChairLift lift = Lifts.lift(1, 2);
        Lifts.join(lift, 0, 2);
        lift.pass(1);
        CHECKS.same("it loads in the step in which it comes", Checks.chair(lift, 0), "2 0 2 1 2");
    }

    private static void valleyTheChairThatStaysLoads() {
        ChairLift lift = Lifts.lift(1, 2);
        lift.pass(4);
        Lifts.join(lift, 0, 2);
        lift.pass(1);
        CHECKS.same("it loads when it is round", Checks.chair(lift, 0), "2 0 2 1 2");
    }

    // ---- the rope stands

    private static void standsAndDoesNotLoad() {
        ChairLift lift = Lifts.lift(1, 3);
        Lifts.join(lift, 0, 1);
        lift.pass(1);
        Lifts.join(lift, 0, 1);
        for (int wind = 5; wind <= 9; wind++) {
            lift.setWind(1, wind);
            CHECKS.same("who waits, with wind " + wind, lift.foresee(1, 1), 1);
        }
        lift.pass(2);
        CHECKS.same("the chair", Checks.chair(lift, 0), "3 1 1 1 1");
        CHECKS.same("it takes who waits in its next round", lift.when(1), 5);
        CHECKS.same("the mean", lift.mean(), 1.0);
    }

    private static void standsAndDoesNotTakeOff() {
        ChairLift lift = Lifts.lift(0, 1);
        lift.pass(1);
        lift.want(0);
        lift.setWind(1, 9);
        lift.pass(1);
        CHECKS.same("it is at the valley still", lift.chair(0, 1), 0);
        lift.pass(3);
        CHECKS.same("it has one more round to go", lift.chair(0, 1), 3);
        lift.pass(1);
        CHECKS.same("then it goes", lift.chair(0, 1), -1);
    }

    private static void standsAndDoesNotPutOn() {
        for (int wind = 0; wind <= 9; wind++) {
            ChairLift lift = Lifts.lift(1, 1);
            Lifts.join(lift, 0, 1);
            lift.setWind(0, wind);
            lift.pass(1);
            CHECKS.same("in an even step with wind " + wind, lift.count(2), wind >= 8 ? 0 : 1);
            ChairLift odd = Lifts.lift(1, 1);
            odd.want(0);
            odd.pass(1);
            odd.want(1);
            Lifts.join(odd, 0, 1);
            odd.setWind(1, wind);
            odd.pass(1);
            CHECKS.same("in an odd step with wind " + wind, odd.count(2), wind >= 5 ? 0 : 1);
            CHECKS.same("who rides", odd.count(6), wind >= 5 ? 0 : 1);
        }
    }

    // ---- loading

    private static void seatsAreEnoughOrNot() {
        for (int seats = 1; seats <= 6; seats++) {
            for (int size = 1; size <= 6; size++) {
                ChairLift lift = Lifts.lift(1, seats);
                Lifts.join(lift, 0, size);
                lift.pass(1);
                CHECKS.same(size + " on " + seats, lift.group(0, 2), size <= seats ? 1 : 0);
            }
        }
    }

    private static void seatsThatAreLeftAreEnoughOrNot() {
        for (int first = 1; first <= 6; first++) {
            for (int second = 1; second <= 6; second++) {
                ChairLift oneLane = Lifts.lift(1, 6);
                Lifts.join(oneLane, 0, first, second);
                ChairLift twoLanes = Lifts.lift(2, 6);
                Lifts.join(twoLanes, 0, first);
                Lifts.join(twoLanes, 1, second);
                oneLane.pass(1);
                twoLanes.pass(1);
                int riders = first + second <= 6 ? first + second : first;
                CHECKS.same(first + ", then " + second, oneLane.chair(0, 2), riders);
                CHECKS.same(first + ", then " + second + " of another lane", twoLanes.chair(0, 2), riders);
                CHECKS.same("the turn", twoLanes.count(10), first + second <= 6 ? 0 : 1);
            }
        }
    }

    private static void seatsAreFullWithSix() {
        ChairLift lift = Lifts.lift(1, 6);
        Lifts.join(lift, 0, 1, 1, 1, 1, 1, 1, 1);
        lift.pass(1);
        CHECKS.same("the chair", Checks.chair(lift, 0), "6 0 6 6 6");
        CHECKS.same("who waits", Checks.queue(lift, 0), "6");
        CHECKS.same("six groups come up at once", lift.pass(2), 6);
        CHECKS.same("the mean is of steps, not of groups", lift.mean(), 6.0);
        lift.pass(2);
        CHECKS.same("the seventh one", Checks.chair(lift, 0), "6 0 1 1 7");
        CHECKS.same("the mean", lift.mean(), 3.5);
    }

    private static void roundBeginsAtTheTurn() {
        for (int turn = 0; turn < 4; turn++) {
            ChairLift lift = withTurn(turn);
            for (int lane = 0; lane < 4; lane++) {
                Lifts.join(lift, lane, 1);
            }
            lift.pass(1);
            CHECKS.same("taken from the lane " + turn, lift.lane(turn, 0), 0);
            CHECKS.same("the turn behind it", lift.count(10), (turn + 1) % 4);
            CHECKS.same("three wait", lift.count(5), 3);
        }
    }

    /** Four lanes that nobody is in, chairs with one seat, and the turn of this lane. */
    private static ChairLift withTurn(int turn) {
        ChairLift lift = Lifts.lift(4, 1, 1, 1, 1);
        Lifts.join(lift, (turn + 3) % 4, 1);
        lift.pass(1);
        CHECKS.same("the turn", lift.count(10), turn);
        return lift;
    }

    private static void roundFromTheLastLane() {
        for (int only = 0; only < 4; only++) {
            ChairLift lift = withTurn(3);
            Lifts.join(lift, only, 1);
            lift.pass(1);
            CHECKS.same("taken from the only lane " + only, lift.lane(only, 0), 0);
            CHECKS.same("the turn behind it", lift.count(10), (only + 1) % 4);
        }
        ChairLift lift = withTurn(3);
        Lifts.join(lift, 2, 1);
        Lifts.join(lift, 1, 1);
        Lifts.join(lift, 0, 2);
        lift.pass(1);
        CHECKS.same("the lane 0 is looked at first, but is too many", Checks.row(lift.lane(0, 0), lift.lane(1, 0),
                lift.lane(2, 0)), "1 0 1");
    }

    private static void roundWithOneLaneOnly() {
        ChairLift lift = Lifts.lift(1, 2, 2);
        Lifts.join(lift, 0, 1, 1, 2);
        lift.pass(1);
        CHECKS.same("both of the lane", lift.chair(0, 3), 2);
        CHECKS.same("the turn", lift.count(10), 0);
        lift.pass(1);
        CHECKS.same("the third one", lift.chair(1, 3), 1);
        CHECKS.same("the turn", lift.count(10), 0);
    }

    private static void roundTurnStaysWithEmptyQueues() {
        for (int turn = 0; turn < 4; turn++) {
            ChairLift lift = withTurn(turn);
            lift.pass(10);
            CHECKS.same("the turn when nobody waits", lift.count(10), turn);
            Lifts.join(lift, 0, 2);
            lift.pass(4);
            CHECKS.same("the turn when who waits is too many", lift.count(10), turn);
        }
    }

    // ---- patience

    private static void patienceEndsWithTheLastStep() {
        for (int patience : new int[] {1, 2, 3, 23, 24, 25, 199, 200}) {
            for (int wind : new int[] {0, 9}) {
                ChairLift lift = Lifts.lift(1);
                lift.pass(5);
                for (int at = 0; at < 24; at++) {
                    lift.setWind(at, wind);
                }
                lift.join(0, 4, patience);
                if (patience > 1) {
                    lift.pass(patience - 1);
                }
                CHECKS.same("people who wait", Checks.lane(lift, 0), "1 4 0 0");
                CHECKS.same("nobody has left", lift.count(8), 0);
                lift.pass(1);
                CHECKS.same("nobody waits", Checks.lane(lift, 0), "0 0 0 0");
                CHECKS.same("people who have left", lift.count(8), 4);
            }
        }
    }

    private static void patienceOfOneInTheStepOfComing() {
        ChairLift lift = Lifts.lift(1);
        lift.pass(10);
        lift.join(0, 1, 1);
        CHECKS.same("it waits before the step", lift.group(0, 2), 0);
        lift.pass(1);
        CHECKS.same("the step in which it came is one", Checks.group(lift, 0), "1 1 3 -1 -1 10 -1 0");
    }

    private static void patienceAndAChairInTheLastStep() {
        // The only chair comes to the valley in the steps 0, 4, 8.
        for (int patience = 7; patience <= 10; patience++) {
            ChairLift lift = Lifts.lift(1, 1);
            Lifts.join(lift, 0, 1, 1);
            lift.join(0, 1, patience);
            lift.pass(8);
            CHECKS.same("it waits with patience " + patience, lift.group(2, 2), patience <= 8 ? 3 : 0);
            lift.pass(1);
            CHECKS.same("it rides with patience " + patience, lift.group(2, 2), patience <= 8 ? 3 : 1);
            CHECKS.same("people who are up in the end", lift.foresee(150, 0), patience <= 8 ? 0 : 1);
        }
    }

    private static void patienceAfterAChange() {
        ChairLift lift = Lifts.lift(2);
        lift.join(0, 1, 4);
        lift.pass(3);
        lift.change(0, 1);
        CHECKS.same("it waits", Checks.group(lift, 0), "1 4 0 1 -1 0 -1 0");
        lift.pass(1);
        CHECKS.same("it has waited 4 steps in all", Checks.group(lift, 0), "1 4 3 -1 -1 0 -1 0");
    }

    private static void patienceFirstMiddleAndLastOfAQueue() {
        ChairLift lift = Lifts.lift(1);
        for (int group = 0; group < 5; group++) {
            lift.join(0, 1, group % 2 == 0 ? 2 : 3);
        }
        lift.pass(1);
        CHECKS.same("all wait", Checks.queue(lift, 0), "0 1 2 3 4");
        lift.pass(1);
        CHECKS.same("the others keep their order", Checks.queue(lift, 0), "1 3");
        lift.pass(1);
        CHECKS.same("none waits", Checks.queue(lift, 0), "");
    }

    // ---- pass

    private static void passUpInTheLastStep() {
        // The rope moves in the steps 7, 31, .. 199: up at the eighth move behind the first one.
        ChairLift at199 = Lifts.lift(1, 3);
        at199.stretch(8);
        Lifts.moveOnlyAt(at199, 7);
        Lifts.join(at199, 0, 3);
        CHECKS.same("in 199 steps", at199.pass(199), 0);
        CHECKS.same("in the step behind them", at199.pass(1), 3);
        ChairLift at200 = Lifts.lift(1, 3);
        at200.stretch(8);
        Lifts.moveOnlyAt(at200, 7);
        Lifts.join(at200, 0, 3);
        CHECKS.same("in 200 steps", at200.pass(200), 3);
        CHECKS.same("the step in which it was up", at200.group(0, 6), 199);
        CHECKS.same("in the steps behind them", at200.pass(200), 0);
    }

    private static void passCountsPeople() {
        ChairLift lift = Lifts.lift(1, 6, 6);
        Lifts.join(lift, 0, 2, 3, 6);
        lift.join(0, 5, 3);
        CHECKS.same("people of all groups that come up, not who leaves", lift.pass(5), 11);
        CHECKS.same("who has left", lift.count(8), 5);
    }
}
