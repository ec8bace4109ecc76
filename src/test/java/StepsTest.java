/** Promise 16 and the terms: what a step does. */
public final class StepsTest {
    private static final Checks CHECKS = new Checks();

    public static void main(String[] args) {
        promise16Pass();
        promise16PassRefuses();
        pointOneWind();
        pointOneOddSteps();
        pointOneTableGoesRound();
        pointOneWindTurnsColdOnlyWhoRides();
        pointTwoNothingHappensWhileTheRopeStands();
        pointTwoUpBeforeTheValley();
        pointTwoExchange();
        pointTwoNoChairInTheShed();
        pointTwoChairThatGoesDoesNotLoad();
        loadingTakesTurns();
        loadingSkipsWhoIsTooMany();
        loadingLooksAtTheFirstOnly();
        loadingKeepsTheTurnIfNoneFits();
        loadingFromShutLanes();
        loadingTurnWithFewerLanes();
        pointThreePatience();
        pointThreeAfterLoading();
        pointThreeWhileTheRopeStands();
        pointThreeNotWhoRides();
        CHECKS.end();
    }

    private static void promise16Pass() {
        ChairLift lift = Lifts.lift(1, 3);
        Lifts.join(lift, 0, 3, 2, 1, 3);
        CHECKS.same("before they are up", lift.pass(2), 0);
        CHECKS.same("the step in which they are up", lift.pass(1), 3);
        CHECKS.same("the step behind", lift.pass(1), 0);
        CHECKS.same("two more rounds", lift.pass(8), 6);
        CHECKS.same("the step", lift.count(0), 12);
        CHECKS.same("200 steps", lift.pass(200), 0);
        CHECKS.same("the step", lift.count(0), 212);

        ChairLift whole = Lifts.lift(2, 2, 4);
        ChairLift parts = Lifts.lift(2, 2, 4);
        int upInParts = 0;
        Lifts.join(whole, 0, 1, 2, 3, 4, 1, 2, 1, 1);
        Lifts.join(parts, 0, 1, 2, 3, 4, 1, 2, 1, 1);
        for (int step = 0; step < 30; step++) {
            upInParts += parts.pass(1);
        }
        CHECKS.same("30 steps at once", whole.pass(30), upInParts);
        CHECKS.same("all that is behind them", Checks.allOf(whole), Checks.allOf(parts));
    }

    private static void promise16PassRefuses() {
        ChairLift lift = Lifts.lift(1, 3);
        Lifts.join(lift, 0, 1);
        for (int steps : new int[] {Integer.MIN_VALUE, -1, 0, 201, 202, Integer.MAX_VALUE}) {
            CHECKS.refusesArgument("pass of wrong steps", lift, x -> x.pass(steps));
        }
    }

    private static void pointOneWind() {
        for (int wind = 0; wind <= 9; wind++) {
            ChairLift lift = Lifts.lift(1, 2);
            Lifts.join(lift, 0, 2);
            for (int at = 1; at < 24; at++) {
                lift.setWind(at, wind);
            }
            lift.pass(9);
            // The steps 1 to 8: all of them move the rope, or those of even numbers, or none.
            int moved = wind >= 8 ? 0 : wind >= 5 ? 4 : 8;
            CHECKS.same("the place with wind " + wind, lift.chair(0, 1), moved % 4);
            CHECKS.same("stood with wind " + wind, lift.count(9), 8 - moved);
            CHECKS.same("colder with wind " + wind, lift.group(0, 7), wind >= 8 ? 8 : 0);
            CHECKS.same("all colder with wind " + wind, lift.count(11), wind >= 8 ? 16 : 0);
        }
    }

    private static void pointOneOddSteps() {
        for (int wind = 5; wind <= 7; wind++) {
            ChairLift lift = Lifts.lift(0, 1);
            lift.setWind(0, wind);
            lift.setWind(1, wind);
            lift.pass(1);
            CHECKS.same("an even step moves", lift.count(9), 0);
            lift.pass(1);
            CHECKS.same("an odd step stands", lift.count(9), 1);
            lift.pass(24);
            CHECKS.same("the next round", lift.count(9), 2);
        }
    }

    private static void pointOneTableGoesRound() {
        ChairLift lift = Lifts.lift(1, 6);
        lift.setWind(23, 8);
        lift.pass(23);
        CHECKS.same("before the step 23", lift.count(9), 0);
        lift.pass(1);
        CHECKS.same("behind the step 23", lift.count(9), 1);
        lift.pass(23);
        CHECKS.same("before the step 47", lift.count(9), 1);
        lift.pass(1);
        CHECKS.same("behind the step 47", lift.count(9), 2);
        lift.pass(200);
        CHECKS.same("behind the step 247", lift.count(9), 10);
    }

    private static void pointOneWindTurnsColdOnlyWhoRides() {
        ChairLift lift = Lifts.lift(2, 3);
        Lifts.join(lift, 0, 1, 6);
        Lifts.join(lift, 1, 2);
        lift.pass(2);
        lift.setWind(2, 8);
        lift.pass(1);
        CHECKS.same("rides", lift.group(0, 7), 1);
        CHECKS.same("waits", lift.group(1, 7), 0);
        CHECKS.same("rides too", lift.group(2, 7), 1);
        lift.pass(1);
        lift.setWind(4, 9);
        lift.pass(1);
        CHECKS.same("is up", lift.group(0, 7), 1);
        CHECKS.same("all", lift.count(11), 3);
    }

    private static void pointTwoNothingHappensWhileTheRopeStands() {
        ChairLift lift = Lifts.lift(1, 3);
        lift.setWind(0, 8);
        Lifts.join(lift, 0, 3, 1);
        lift.pass(1);
        CHECKS.same("no chair comes", lift.count(2), 0);
        lift.pass(2);
        lift.setWind(3, 8);
        CHECKS.same("nobody comes up", lift.pass(1), 0);
        CHECKS.same("the place", lift.chair(0, 1), 1);
        CHECKS.same("then they do", lift.pass(1), 3);
        lift.pass(1);
        lift.setWind(6, 8);
        lift.want(0);
        lift.pass(2);
        CHECKS.same("it goes a step later", lift.chair(0, 1), -1);
    }

    private static void pointTwoUpBeforeTheValley() {
        ChairLift lift = Lifts.lift(1, 1, 1, 1, 1);
        Lifts.join(lift, 0, 1, 1, 1, 1, 1, 1);
        lift.pass(4);
        CHECKS.same("all places taken", lift.count(2), 4);
        CHECKS.same("places", Checks.row(lift.chair(0, 1), lift.chair(1, 1), lift.chair(2, 1), lift.chair(3, 1)),
                "3 2 1 0");
        CHECKS.same("up", lift.count(7), 2);
        CHECKS.same("each step one is up", lift.pass(1), 1);
        CHECKS.same("while another one boards", lift.group(4, 4), 0);
        CHECKS.same("the step of the first one", lift.group(0, 6), 2);
        CHECKS.same("the step of the second one", lift.group(1, 6), 3);
        CHECKS.same("the step of the third one", lift.group(2, 6), 4);
    }

    private static void pointTwoExchange() {
        ChairLift lift = Lifts.lift(0, 1, 2, 3, 4, 5, 6);
        lift.pass(4);
        CHECKS.same("one in each step", Checks.shed(lift), "4 5");
        lift.pass(4);
        CHECKS.same("no room for more", Checks.shed(lift), "4 5");
        lift.want(4);
        lift.pass(4);
        CHECKS.same("as many as wanted", Checks.shed(lift), "4 5");
        lift.want(2);
        lift.pass(1);
        CHECKS.same("the first one goes", Checks.shed(lift), "4 5 0");
        lift.pass(1);
        CHECKS.same("the second one goes", Checks.shed(lift), "4 5 0 1");
        lift.pass(2);
        CHECKS.same("the others stay", Checks.shed(lift), "4 5 0 1");
        lift.want(3);
        lift.pass(1);
        CHECKS.same("the first of the row comes", Checks.shed(lift), "5 0 1");
        CHECKS.same("to the valley", lift.chair(4, 1), 0);
    }

    private static void pointTwoNoChairInTheShed() {
        ChairLift lift = Lifts.lift(0, 1);
        lift.want(5);
        lift.pass(3);
        CHECKS.same("one is there", lift.count(2), 1);
        CHECKS.same("its place", lift.chair(0, 1), 2);
    }

    private static void pointTwoChairThatGoesDoesNotLoad() {
        ChairLift lift = Lifts.lift(1, 2, 2);
        lift.pass(3);
        Lifts.join(lift, 0, 1);
        lift.want(1);
        lift.pass(1);
        CHECKS.same("the rope while none is at the valley", lift.count(2), 2);
        lift.pass(1);
        CHECKS.same("the chair that goes", Checks.chair(lift, 0), "2 -1 0 0 0");
        CHECKS.same("who waits", lift.group(0, 2), 0);
        lift.pass(1);
        CHECKS.same("the chair that stays", Checks.chair(lift, 1), "2 0 1 1 1");
    }

    private static void loadingTakesTurns() {
        ChairLift lift = Lifts.lift(3, 4, 4);
        Lifts.join(lift, 0, 1, 1, 1);
        Lifts.join(lift, 1, 1, 1, 1);
        Lifts.join(lift, 2, 1, 1, 1);
        lift.pass(1);
        CHECKS.same("from 0, 1, 2 and 0", Checks.row(lift.lane(0, 0), lift.lane(1, 0), lift.lane(2, 0)), "1 2 2");
        CHECKS.same("the turn", lift.count(10), 1);
        lift.pass(1);
        CHECKS.same("from 1, 2, 0 and 1", Checks.row(lift.lane(0, 0), lift.lane(1, 0), lift.lane(2, 0)), "0 0 1");
        CHECKS.same("the turn", lift.count(10), 2);
        CHECKS.same("the chair", Checks.chair(lift, 1), "4 0 4 4 4");
    }

    private static void loadingSkipsWhoIsTooMany() {
        ChairLift lift = Lifts.lift(3, 5);
        Lifts.join(lift, 0, 3, 1);
        Lifts.join(lift, 1, 3);
        Lifts.join(lift, 2, 2);
        lift.pass(1);
        CHECKS.same("who rides", Checks.row(lift.group(0, 2), lift.group(1, 2), lift.group(2, 2), lift.group(3, 2)),
                "1 0 0 1");
        CHECKS.same("the turn is behind the last one", lift.count(10), 0);
    }

    private static void loadingLooksAtTheFirstOnly() {
        ChairLift lift = Lifts.lift(2, 2);
        Lifts.join(lift, 0, 3, 1);
        Lifts.join(lift, 1, 1, 6, 1);
        lift.pass(1);
        CHECKS.same("queue 0", Checks.queue(lift, 0), "0 1");
        CHECKS.same("queue 1", Checks.queue(lift, 1), "3 4");
        CHECKS.same("the chair", Checks.chair(lift, 0), "2 0 1 1 1");
        CHECKS.same("the turn", lift.count(10), 0);
    }

    private static void loadingKeepsTheTurnIfNoneFits() {
        ChairLift lift = Lifts.lift(3, 1);
        Lifts.join(lift, 0, 1);
        Lifts.join(lift, 1, 2);
        Lifts.join(lift, 2, 6);
        lift.pass(1);
        CHECKS.same("the turn", lift.count(10), 1);
        lift.pass(4);
        CHECKS.same("the turn when none fitted", lift.count(10), 1);
        CHECKS.same("nobody rides", lift.count(6), 0);
        CHECKS.same("the mean is of the step that took some", lift.mean(), 1.0);
    }

    private static void loadingFromShutLanes() {
        ChairLift lift = Lifts.lift(2, 2);
        Lifts.join(lift, 0, 1);
        Lifts.join(lift, 1, 1);
        lift.shut(0, true);
        lift.shut(1, true);
        lift.pass(1);
        CHECKS.same("the chair", Checks.chair(lift, 0), "2 0 2 2 2");
    }

    private static void loadingTurnWithFewerLanes() {
        ChairLift lift = Lifts.lift(1, 1);
        Lifts.join(lift, 0, 1, 1);
        lift.pass(1);
        CHECKS.same("the turn with one lane", lift.count(10), 0);
        lift.addLane();
        CHECKS.same("the turn with a new lane", lift.count(10), 0);
        lift.pass(4);
        CHECKS.same("the turn with two lanes", lift.count(10), 1);
        Lifts.join(lift, 0, 1);
        lift.pass(4);
        CHECKS.same("the turn of an empty lane goes by", lift.group(2, 2), 1);
        CHECKS.same("the turn behind the lane 0", lift.count(10), 1);
    }

    private static void pointThreePatience() {
        for (int patience = 1; patience <= 200; patience++) {
            ChairLift lift = Lifts.lift(1);
            lift.pass(patience % 7 + 1);
            lift.join(0, 1, patience);
            if (patience > 1) {
                lift.pass(patience - 1);
            }
            CHECKS.same("a step before patience " + patience, lift.group(0, 2), 0);
            lift.pass(1);
            CHECKS.same("at patience " + patience, lift.group(0, 2), 3);
        }
    }

    private static void pointThreeAfterLoading() {
        ChairLift lift = Lifts.lift(1, 1);
        lift.join(0, 1, 1);
        lift.join(0, 1, 1);
        lift.join(0, 1, 2);
        lift.pass(1);
        CHECKS.same("who boards in time", lift.group(0, 2), 1);
        CHECKS.same("who does not", lift.group(1, 2), 3);
        CHECKS.same("who has a step more", lift.group(2, 2), 0);
        CHECKS.same("the queue", Checks.queue(lift, 0), "2");
    }

    private static void pointThreeWhileTheRopeStands() {
        ChairLift lift = Lifts.lift(2, 1);
        for (int at = 0; at < 24; at++) {
            lift.setWind(at, 9);
        }
        for (int group = 0; group < 12; group++) {
            lift.join(group % 2, 1, group % 4 < 2 ? 1 : 2);
        }
        lift.pass(1);
        CHECKS.same("queue 0", Checks.queue(lift, 0), "2 6 10");
        CHECKS.same("queue 1", Checks.queue(lift, 1), "3 7 11");
        lift.pass(1);
        CHECKS.same("nobody waits", lift.count(5), 0);
        CHECKS.same("all have left", lift.count(8), 12);
        CHECKS.same("nobody is colder", lift.count(11), 0);
    }

    private static void pointThreeNotWhoRides() {
        ChairLift lift = Lifts.lift(1, 1);
        lift.stretch(12);
        lift.join(0, 1, 5);
        lift.pass(13);
        CHECKS.same("who rides longer than the patience", Checks.group(lift, 0), "1 5 2 -1 -1 0 12 0");
    }
}
