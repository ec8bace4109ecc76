import java.math.BigInteger;

/** The edges of looking ahead: the last step that counts and the one behind it, nothing there, and everything. */
public final class AheadEdgesTest {
    private static final Checks CHECKS = new Checks();

    public static void main(String[] args) {
        promise18ForeseeTheStep150();
        promise18ForeseeTheNextStep();
        promise18ForeseeNothing();
        promise18ForeseeWithAll();
        promise19WhenIs0And1();
        promise19WhenTheStep250();
        promise19WhenItLeaves();
        promise19WhenItNeverComes();
        promise20AdviseTheStep200();
        promise20AdvisePatienceOf200();
        promise20AdviseNone();
        promise20AdviseEachSize();
        promise20AdviseOfSeveralTheSmallest();
        promise20AdviseOneStepEarlier();
        promise20AdviseShutLanes();
        promise20AdviseWithNinetyGroups();
        promise20AdviseIsNotSeenLater();
        promise21NeedsTheStep100();
        promise21NeedsFiveHundred();
        promise21NeedsNoneAndAll();
        promise21NeedsNobodyLeft();
        promise22MeanOfNone();
        promise22MeanIsNotWhole();
        promise23DigestWrapsAround();
        promise23DigestOfAll();
        CHECKS.end();
    }

    /** A group of three is up in the last step of so many moves, of which there is one in 24 steps, the first at. */
    private static ChairLift oneGroup(int moves, int at) {
        ChairLift lift = Lifts.lift(1, 3);
        // It boards at the first move, and is up as many moves later as half has places.
        lift.stretch(moves - 1);
        Lifts.moveOnlyAt(lift, at);
        Lifts.join(lift, 0, 3);
        return lift;
    }

    private static ChairLift storm(ChairLift lift) {
        Lifts.moveOnlyAt(lift, -1);
        return lift;
    }

    // ---- foresee

    private static void promise18ForeseeTheStep150() {
        // Moves in the steps 5, 29, .. 149: the seventh one is in the step 149.
        CHECKS.same("in the last one of 150 steps", oneGroup(7, 5).foresee(150, 0), 3);
        CHECKS.same("not in 149 steps", oneGroup(7, 5).foresee(149, 0), 0);
        CHECKS.same("not in 150 steps", oneGroup(7, 6).foresee(150, 0), 0);
        ChairLift lift = Lifts.lift(1);
        lift.join(0, 2, 150);
        CHECKS.same("it waits behind 149 steps", lift.foresee(149, 1), 2);
        CHECKS.same("it has left behind 150 steps", lift.foresee(150, 1), 0);
    }

    private static void promise18ForeseeTheNextStep() {
        ChairLift lift = Lifts.lift(1, 3);
        Lifts.join(lift, 0, 3);
        CHECKS.same("it waits no more", lift.foresee(1, 1), 0);
        lift.pass(1);
        CHECKS.same("nobody is up in the next step", lift.foresee(1, 0), 0);
        lift.pass(1);
        CHECKS.same("it is up in the next step", lift.foresee(1, 0), 3);
        lift.setWind(2, 8);
        CHECKS.same("or colder", lift.foresee(1, 2), 3);
        CHECKS.same("and not up", lift.foresee(1, 0), 0);
        lift.setWind(2, 7);
        CHECKS.same("not colder with less wind", lift.foresee(1, 2), 0);
    }

    private static void promise18ForeseeNothing() {
        ChairLift lift = storm(new ChairLift());
        for (int what = 0; what < 3; what++) {
            CHECKS.same("of a lift without anything", lift.foresee(1, what), 0);
            CHECKS.same("of a lift without anything", lift.foresee(150, what), 0);
        }
    }

    private static void promise18ForeseeWithAll() {
        ChairLift lift = Lifts.withAll(20, 4, 90);
        lift.stretch(12);
        lift.want(20);
        lift.pass(12);
        storm(lift);
        // Twelve groups of 6 ride, 78 wait; the others have patience up to the step 199.
        CHECKS.same("nobody comes up in the storm", lift.foresee(150, 0), 0);
        CHECKS.same("who waits then", lift.foresee(150, 1), 468);
        CHECKS.same("by how much colder", lift.foresee(150, 2), 72 * 150);
        lift.pass(150);
        CHECKS.same("who waits in the step 199", lift.foresee(37, 1), 468);
        CHECKS.same("who waits behind it", lift.foresee(38, 1), 0);
        CHECKS.same("colder before does not count", lift.foresee(1, 2), 72);
    }

    // ---- when

    private static void promise19WhenIs0And1() {
        ChairLift lift = Lifts.lift(1, 3);
        Lifts.join(lift, 0, 1);
        for (int steps = 3; steps >= 0; steps--) {
            CHECKS.same("behind so many steps", lift.when(0), steps);
            lift.pass(1);
        }
        CHECKS.same("it is up", lift.when(0), 0);
        CHECKS.same("it is up in a storm too", storm(lift).when(0), 0);
    }

    private static void promise19WhenTheStep250() {
        // Moves in the steps 9, 33, .. 249: the eleventh one is in the step 249.
        CHECKS.same("behind 250 steps", oneGroup(11, 9).when(0), 250);
        CHECKS.same("behind 251 steps", oneGroup(11, 10).when(0), -1);
        ChairLift lift = oneGroup(11, 10);
        lift.pass(1);
        CHECKS.same("behind 250 steps from the next one", lift.when(0), 250);
        lift.pass(200);
        lift.pass(49);
        CHECKS.same("behind one step", lift.when(0), 1);
        lift.pass(1);
        CHECKS.same("it is up", lift.when(0), 0);
    }

    private static void promise19WhenItLeaves() {
        // The only chair comes to the valley in the steps 0, 4, 8.
        ChairLift lift = Lifts.lift(1, 1);
        Lifts.join(lift, 0, 1, 1);
        lift.join(0, 1, 8);
        CHECKS.same("it leaves before the chair comes", lift.when(2), -1);
        lift.leave(1);
        CHECKS.same("it boards in time then", lift.when(2), 7);
        lift.pass(4);
        CHECKS.same("the one that has left", lift.when(1), -1);
    }

    private static void promise19WhenItNeverComes() {
        CHECKS.same("in a storm", storm(oneGroup(3, 0)).when(0), -1);
        ChairLift none = Lifts.lift(1);
        Lifts.join(none, 0, 1);
        CHECKS.same("without chairs", none.when(0), -1);
        ChairLift small = Lifts.lift(1, 5);
        Lifts.join(small, 0, 6);
        CHECKS.same("on a chair that is too small", small.when(0), -1);
        ChairLift notWanted = Lifts.lift(1, 5);
        notWanted.want(0);
        Lifts.join(notWanted, 0, 1);
        CHECKS.same("with a chair that is not wanted", notWanted.when(0), -1);
    }

    // ---- advise

    private static ChairLift noGroup(int moves, int at) {
        ChairLift lift = oneGroup(moves, at);
        lift.leave(0);
        return lift;
    }

    private static void promise20AdviseTheStep200() {
        // Moves in the steps 7, 31, .. 199: the ninth one is in the step 199.
        CHECKS.same("behind 200 steps", noGroup(9, 7).advise(3), 0);
        CHECKS.same("behind 201 steps", noGroup(9, 8).advise(3), -1);
        ChairLift lift = noGroup(9, 8);
        lift.pass(1);
        CHECKS.same("behind 200 steps from the next one", lift.advise(3), 0);
    }

    private static void promise20AdvisePatienceOf200() {
        // From now on the chair comes to the valley in the steps 1, 5, .. 193, 197, and is at the top two steps later.
        ChairLift lift = Lifts.lift(1, 1);
        lift.pass(3);
        for (int group = 0; group < 49; group++) {
            Lifts.join(lift, 0, 1);
        }
        CHECKS.same("up behind 200 steps, 197 of which it waits", lift.advise(1), 0);
        lift.join(0, 1, 197);
        CHECKS.same("a group with less patience leaves", lift.when(49), -1);
        CHECKS.same("behind one that leaves in time", lift.advise(1), 0);
        lift.leave(49);
        lift.join(0, 1, 198);
        CHECKS.same("a group with just so much patience", lift.when(50), 200);
        CHECKS.same("a round later", lift.advise(1), -1);
    }

    private static void promise20AdviseNone() {
        CHECKS.same("without lanes", Lifts.lift(0, 6).advise(1), -1);
        CHECKS.same("without chairs", Lifts.lift(4).advise(1), -1);
        CHECKS.same("in a storm", storm(Lifts.lift(4, 6)).advise(1), -1);
        ChairLift notWanted = Lifts.lift(4, 6);
        notWanted.want(0);
        CHECKS.same("with a chair that is not wanted", notWanted.advise(1), -1);
    }

    private static void promise20AdviseEachSize() {
        for (int seats = 1; seats <= 6; seats++) {
            ChairLift lift = Lifts.lift(2, seats);
            for (int size = 1; size <= 6; size++) {
                CHECKS.same(size + " on " + seats, lift.advise(size), size <= seats ? 0 : -1);
            }
        }
    }

    private static void promise20AdviseOfSeveralTheSmallest() {
        for (int first = 0; first < 4; first++) {
            ChairLift lift = Lifts.lift(4, 2, 2);
            for (int lane = 0; lane < first; lane++) {
                Lifts.join(lift, lane, 6);
            }
            CHECKS.same("those below are blocked", lift.advise(2), first);
        }
        ChairLift lift = Lifts.lift(4, 2, 2);
        for (int lane = 0; lane < 4; lane++) {
            Lifts.join(lift, lane, 6);
        }
        CHECKS.same("all are blocked", lift.advise(2), -1);
    }

    private static void promise20AdviseOneStepEarlier() {
        // One boards in each step, from the lanes in turn.
        ChairLift two = Lifts.lift(2, 1, 1, 1, 1);
        Lifts.join(two, 0, 1, 1);
        CHECKS.same("the lane 1, behind 4 steps, not the lane 0, behind 5", two.advise(1), 1);
        Lifts.join(two, 1, 1);
        CHECKS.same("behind 4 steps", two.when(2), 4);
        CHECKS.same("both are as good then", two.advise(1), 0);
        for (int best = 0; best < 4; best++) {
            ChairLift lift = Lifts.lift(4, 1, 1, 1, 1);
            for (int lane = 0; lane < 4; lane++) {
                Lifts.join(lift, lane, 1, 1, 1);
            }
            lift.leave(3 * best + 1);
            lift.leave(3 * best + 2);
            CHECKS.same("where fewer wait", lift.advise(1), best);
        }
    }

    private static void promise20AdviseShutLanes() {
        for (int open = 0; open < 4; open++) {
            ChairLift lift = Lifts.lift(4, 1);
            for (int lane = 0; lane < 4; lane++) {
                lift.shut(lane, lane != open);
            }
            CHECKS.same("the only one that is open", lift.advise(1), open);
            lift.shut(open, true);
            CHECKS.same("none is open", lift.advise(1), -1);
        }
    }

    private static void promise20AdviseWithNinetyGroups() {
        ChairLift lift = Lifts.lift(4, 6, 6, 6, 6);
        for (int group = 0; group < 89; group++) {
            lift.join(group % 3, 6, 200);
        }
        CHECKS.same("the lane that nobody is in, with 89", lift.advise(6), 3);
        lift.join(3, 5, 100);
        CHECKS.same("the group that came in truth", Checks.group(lift, 89), "5 100 0 3 -1 0 -1 0");
        String before = Checks.allOf(lift);
        CHECKS.same("the lane that one is in, with 90", lift.advise(6), 3);
        CHECKS.same("with 90 there is no more", lift.count(4), 90);
        CHECKS.refusesIndex("group(90, 0)", lift, x -> x.group(90, 0));
        CHECKS.refusesIndex("when(90)", lift, x -> x.when(90));
        CHECKS.same("people who wait", lift.foresee(1, 1), 539 - 6);
        CHECKS.same("nothing is changed", Checks.allOf(lift), before);
        lift.shut(3, true);
        CHECKS.same("of several that are as good the one with the smallest number", lift.advise(6), 0);
        lift.leave(86);
        CHECKS.same("28 groups wait in the lane 2, 30 in the others", lift.advise(6), 2);
    }

    private static void promise20AdviseIsNotSeenLater() {
        ChairLift lift = Lifts.lift(2, 2);
        Lifts.join(lift, 1, 6);
        CHECKS.same("the lane that is not blocked", lift.advise(2), 0);
        CHECKS.same("who waits behind a step", lift.foresee(1, 1), 6);
        CHECKS.same("who waits behind 150 steps", lift.foresee(150, 1), 6);
        ChairLift windy = Lifts.lift(1, 2);
        windy.setWind(1, 9);
        CHECKS.same("up behind four steps, and cold", windy.advise(2), 0);
        CHECKS.same("nobody gets colder in truth", windy.foresee(3, 2), 0);
        CHECKS.same("nobody comes up in truth", windy.foresee(4, 0), 0);
        windy.join(0, 1, 3);
        CHECKS.same("who joins then", Checks.group(windy, 0), "1 3 0 0 -1 0 -1 0");
        CHECKS.same("gets colder", windy.foresee(3, 2), 1);
    }

    // ---- needs

    private static void promise21NeedsTheStep100() {
        // Moves in the steps 3, 27, .. 99: the fifth one is in the step 99.
        CHECKS.same("in the last one of 100 steps", oneGroup(5, 3).needs(3, 100), 1);
        CHECKS.same("not in 99 steps", oneGroup(5, 3).needs(3, 99), -1);
        CHECKS.same("not in 100 steps", oneGroup(5, 4).needs(3, 100), -1);
        CHECKS.same("fewer people", oneGroup(5, 3).needs(1, 100), 1);
        CHECKS.same("more people", oneGroup(5, 3).needs(4, 100), -1);
    }

    private static void promise21NeedsFiveHundred() {
        ChairLift lift = Lifts.lift(1, 6, 6, 6, 6);
        for (int group = 0; group < 90; group++) {
            Lifts.join(lift, 0, 6);
        }
        // Four chairs take one group in each step, which is up behind three steps: 83 groups behind 85 steps.
        CHECKS.same("498 behind 85 steps", lift.needs(498, 85), 4);
        CHECKS.same("499 behind 85 steps", lift.needs(499, 85), -1);
        CHECKS.same("500 behind 86 steps", lift.needs(500, 86), 4);
        // Three chairs take 74 groups in the steps 0 to 97.
        CHECKS.same("444 behind 100 steps", lift.needs(444, 100), 3);
        CHECKS.same("445 behind 100 steps", lift.needs(445, 100), 4);
        CHECKS.same("500 behind 100 steps", lift.needs(500, 100), 4);
    }

    private static void promise21NeedsNoneAndAll() {
        CHECKS.same("without chairs", Lifts.lift(1).needs(1, 100), -1);
        ChairLift lift = Lifts.withAll(20, 1, 20);
        lift.stretch(12);
        CHECKS.same("all twenty", lift.needs(120, 32), 20);
        CHECKS.same("more than all twenty", lift.needs(121, 32), -1);
        CHECKS.same("nineteen", lift.needs(114, 32), 19);
        lift.want(1);
        lift.pass(12);
        CHECKS.same("none, as one is up in the next step", lift.needs(6, 1), 0);
        CHECKS.same("what is wanted", lift.want(1), 1);
    }

    private static void promise21NeedsNobodyLeft() {
        ChairLift lift = Lifts.lift(1, 1);
        Lifts.join(lift, 0, 1);
        lift.pass(3);
        CHECKS.same("who is up already does not come up", lift.needs(1, 100), -1);
        CHECKS.same("without groups", Lifts.lift(1, 1).needs(1, 100), -1);
    }

    // ---- mean

    private static void promise22MeanOfNone() {
        CHECKS.same("without anything", new ChairLift().mean(), 0.0);
        ChairLift lift = Lifts.lift(1, 1);
        Lifts.join(lift, 0, 2);
        lift.pass(100);
        CHECKS.same("a chair that took none", lift.mean(), 0.0);
        lift.leave(0);
        Lifts.join(lift, 0, 1);
        CHECKS.same("before it took one", lift.mean(), 0.0);
        lift.pass(4);
        CHECKS.same("the steps before do not count", lift.mean(), 1.0);
    }

    private static void promise22MeanIsNotWhole() {
        ChairLift lift = Lifts.lift(1, 6, 1, 1);
        Lifts.join(lift, 0, 6, 1, 1);
        lift.pass(2);
        CHECKS.same("seven riders in two steps", lift.mean(), 3.5);
        lift.pass(1);
        CHECKS.same("eight riders in three steps", lift.mean(), 8.0 / 3.0);
    }

    // ---- digest

    private static void promise23DigestWrapsAround() {
        // A new lift tells 13 counts, of which the last one is 6, and 24 winds: far more than 64 bits.
        BigInteger d = BigInteger.valueOf(677);
        for (int number = 0; number < 37; number++) {
            d = d.multiply(BigInteger.valueOf(31)).add(BigInteger.valueOf(number == 12 ? 6 : 0));
        }
        CHECKS.isTrue("it needs more than 64 bits", d.bitLength() > 64);
        CHECKS.same("the digest of a new lift", new ChairLift().digest(), d.longValue());
    }

    private static void promise23DigestOfAll() {
        ChairLift lift = Lifts.withAll(20, 4, 90);
        lift.stretch(12);
        for (int at = 0; at < 24; at++) {
            lift.setWind(at, at * 7 % 10);
        }
        CHECKS.same("with a full shed and full queues", lift.digest(), Checks.digestOf(lift));
        lift.want(20);
        for (int step = 0; step < 210; step++) {
            lift.pass(1);
            CHECKS.same("with all, behind the step " + step, lift.digest(), Checks.digestOf(lift));
        }
        CHECKS.same("nobody waits in the end", lift.count(5), 0);
        CHECKS.same("the shed is empty in the end", lift.count(2), 20);
    }
}
