/** Promises 18 to 23: foresee, when, advise, needs, mean, digest. */
public final class AheadTest {
    private static final Checks CHECKS = new Checks();

    public static void main(String[] args) {
        promise18Foresee();
        promise18ForeseeIsWhatPassTells();
        promise18ForeseeRefuses();
        promise19When();
        promise19WhenAtMost250();
        promise19WhenRefuses();
        promise20Advise();
        promise20AdviseLeavesOutShutLanes();
        promise20AdviseWithin200();
        promise20AdviseWithNinetyGroups();
        promise20AdviseRefuses();
        promise21Needs();
        promise21NeedsLooksAtAllWanted();
        promise21NeedsRefuses();
        promise22Mean();
        promise23DigestOfANewLift();
        promise23Digest();
        nothingIsChanged();
        CHECKS.end();
    }

    /** A lift in the middle of a day, with something of everything. */
    private static ChairLift busy() {
        ChairLift lift = Lifts.lift(4, 2, 3, 6, 1, 4);
        lift.stretch(5);
        lift.setWind(3, 8);
        lift.setWind(9, 6);
        lift.setWind(17, 9);
        for (int group = 0; group < 30; group++) {
            lift.join(group % 3, group * 5 % 6 + 1, group * 7 % 40 + 3);
        }
        lift.pass(13);
        lift.shut(1, true);
        lift.want(3);
        lift.pass(2);
        return lift;
    }

    private static void promise18Foresee() {
        ChairLift lift = Lifts.lift(1, 3);
        Lifts.join(lift, 0, 2, 3);
        lift.join(0, 1, 2);
        lift.setWind(1, 8);
        lift.setWind(6, 8);
        CHECKS.same("up in 3 steps", lift.foresee(3, 0), 0);
        CHECKS.same("up in 4 steps", lift.foresee(4, 0), 2);
        CHECKS.same("up in 8 steps", lift.foresee(8, 0), 2);
        CHECKS.same("up in 9 steps", lift.foresee(9, 0), 5);
        CHECKS.same("up in 150 steps", lift.foresee(150, 0), 5);
        CHECKS.same("wait behind 1 step", lift.foresee(1, 1), 4);
        CHECKS.same("wait behind 2 steps", lift.foresee(2, 1), 3);
        CHECKS.same("wait behind 5 steps", lift.foresee(5, 1), 3);
        CHECKS.same("wait behind 6 steps", lift.foresee(6, 1), 0);
        CHECKS.same("colder in 1 step", lift.foresee(1, 2), 0);
        CHECKS.same("colder in 2 steps", lift.foresee(2, 2), 2);
        CHECKS.same("colder in 7 steps", lift.foresee(7, 2), 5);
        lift.pass(3);
        CHECKS.same("colder before does not count", lift.foresee(5, 2), 3);
        CHECKS.same("up in the next step", lift.foresee(1, 0), 2);
        lift.pass(1);
        CHECKS.same("up before does not count", lift.foresee(5, 0), 3);
        lift.join(0, 6, 3);
        CHECKS.same("who came late has waited less", lift.foresee(2, 1), 6);
        CHECKS.same("and leaves in time", lift.foresee(3, 1), 0);
    }

    private static void promise18ForeseeIsWhatPassTells() {
        for (int steps = 1; steps <= 150; steps++) {
            ChairLift lift = busy();
            int up = lift.foresee(steps, 0);
            int waiting = lift.foresee(steps, 1);
            int colder = lift.foresee(steps, 2) + lift.count(11);
            CHECKS.same("up in " + steps, up, lift.pass(steps));
            CHECKS.same("waiting behind " + steps, waiting, lift.count(5));
            CHECKS.same("colder behind " + steps, colder, lift.count(11));
        }
    }

    private static void promise18ForeseeRefuses() {
        ChairLift lift = busy();
        for (int steps : new int[] {Integer.MIN_VALUE, -1, 0, 151, 200, Integer.MAX_VALUE}) {
            CHECKS.refusesArgument("foresee of wrong steps", lift, x -> x.foresee(steps, 0));
            CHECKS.refusesArgument("foresee of wrong steps, what is wrong too", lift, x -> x.foresee(steps, 3));
        }
        for (int what : new int[] {Integer.MIN_VALUE, -1, 3, 4, Integer.MAX_VALUE}) {
            CHECKS.refusesIndex("foresee of a wrong what", lift, x -> x.foresee(1, what));
            CHECKS.refusesIndex("foresee of a wrong what", lift, x -> x.foresee(150, what));
        }
    }

    private static void promise19When() {
        ChairLift lift = Lifts.lift(2, 2);
        Lifts.join(lift, 0, 2, 1, 2);
        lift.join(1, 2, 4);
        Lifts.join(lift, 1, 6);
        CHECKS.same("the first one", lift.when(0), 3);
        CHECKS.same("it leaves before", lift.when(3), -1);
        CHECKS.same("behind one who leaves comes one who is too many", lift.when(4), -1);
        CHECKS.same("the second one", lift.when(1), 7);
        CHECKS.same("the third one", lift.when(2), 11);
        lift.pass(2);
        CHECKS.same("the first one rides", lift.when(0), 1);
        lift.pass(1);
        CHECKS.same("the first one is up", lift.when(0), 0);
        CHECKS.same("the second one then", lift.when(1), 4);
        lift.pass(1);
        CHECKS.same("it has left", lift.when(3), -1);
        lift.pass(40);
        CHECKS.same("the first one is up still", lift.when(0), 0);

        ChairLift none = Lifts.lift(1);
        none.join(0, 1, 200);
        CHECKS.same("without chairs", none.when(0), -1);
    }

    private static void promise19WhenAtMost250() {
        // The rope moves in the steps 9, 33, .. 249: up at the tenth move behind the first one.
        ChairLift just = Lifts.lift(1, 1);
        just.stretch(10);
        Lifts.moveOnlyAt(just, 9);
        Lifts.join(just, 0, 1);
        CHECKS.same("behind 250 steps", just.when(0), 250);
        just.pass(200);
        CHECKS.same("behind 50 steps", just.when(0), 50);

        ChairLift late = Lifts.lift(1, 1);
        late.stretch(10);
        Lifts.moveOnlyAt(late, 10);
        Lifts.join(late, 0, 1);
        CHECKS.same("behind 251 steps", late.when(0), -1);
        late.pass(1);
        CHECKS.same("a step later", late.when(0), 250);
    }

    private static void promise19WhenRefuses() {
        ChairLift none = Lifts.lift(1, 1);
        CHECKS.refusesIndex("when(0) without groups", none, x -> x.when(0));
        ChairLift lift = busy();
        for (int group : new int[] {Integer.MIN_VALUE, -1, 30, 90, Integer.MAX_VALUE}) {
            CHECKS.refusesIndex("when of no group", lift, x -> x.when(group));
        }
    }

    private static void promise20Advise() {
        ChairLift none = Lifts.lift(0, 6);
        CHECKS.same("without lanes", none.advise(1), -1);
        ChairLift noChair = Lifts.lift(2);
        CHECKS.same("without chairs", noChair.advise(1), -1);

        ChairLift lift = Lifts.lift(3, 3);
        CHECKS.same("of several the first one", lift.advise(3), 0);
        CHECKS.same("larger than the chair", lift.advise(4), -1);
        Lifts.join(lift, 0, 1);
        CHECKS.same("beside the one ahead", lift.advise(2), 0);
        CHECKS.same("in the same chair as the one ahead", lift.advise(1), 0);
        CHECKS.same("in none before it", lift.advise(3), 0);
        Lifts.join(lift, 0, 3);
        CHECKS.same("a lane with less ahead", lift.advise(2), 1);
        CHECKS.same("too many beside the one ahead", lift.advise(3), 1);
        Lifts.join(lift, 1, 2);
        CHECKS.same("the seats are taken", lift.advise(1), 2);
        Lifts.join(lift, 1, 6);
        Lifts.join(lift, 2, 6);
        CHECKS.same("the only lane that goes on", lift.advise(1), 0);

        ChairLift chairByChair = Lifts.lift(2, 1, 1, 1);
        Lifts.join(chairByChair, 0, 1, 1);
        CHECKS.same("quicker by one step", chairByChair.advise(1), 1);
    }

    private static void promise20AdviseLeavesOutShutLanes() {
        ChairLift lift = Lifts.lift(3, 3);
        lift.shut(0, true);
        CHECKS.same("the first open one", lift.advise(1), 1);
        lift.shut(1, true);
        CHECKS.same("the second open one", lift.advise(1), 2);
        lift.shut(2, true);
        CHECKS.same("none is open", lift.advise(1), -1);
        lift.shut(1, false);
        CHECKS.same("one is open again", lift.advise(1), 1);
    }

    private static void promise20AdviseWithin200() {
        // The rope moves in the steps 7, 31, .. 199: up at the eighth move behind the first one.
        ChairLift just = Lifts.lift(2, 2);
        just.stretch(8);
        Lifts.moveOnlyAt(just, 7);
        CHECKS.same("up behind 200 steps", just.advise(2), 0);

        ChairLift late = Lifts.lift(2, 2);
        late.stretch(8);
        Lifts.moveOnlyAt(late, 8);
        CHECKS.same("up behind 201 steps", late.advise(2), -1);
        late.pass(1);
        CHECKS.same("a step later", late.advise(2), 0);

        // In a group that the chair takes first, the new one would be up at 200 in one lane only.
        ChairLift second = Lifts.lift(2, 2);
        second.stretch(8);
        Lifts.moveOnlyAt(second, 7);
        Lifts.join(second, 0, 2);
        CHECKS.same("the turn of the lane 0 is taken", second.advise(2), -1);
        second.change(0, 1);
        CHECKS.same("from the lane 0 in time", second.advise(2), 0);
    }

    private static void promise20AdviseWithNinetyGroups() {
        ChairLift lift = Lifts.lift(3, 6);
        for (int group = 0; group < 90; group++) {
            lift.join(group % 2, 1, 200);
        }
        CHECKS.same("the empty lane", lift.advise(2), 2);
        lift.shut(2, true);
        CHECKS.same("behind 45 groups, first turn", lift.advise(1), 0);
        for (int group = 1; group < 90; group += 2) {
            lift.change(group, 0);
        }
        CHECKS.same("the lane without groups", lift.advise(1), 1);
        lift.shut(1, true);
        CHECKS.same("behind 90 groups", lift.advise(1), 0);
        CHECKS.same("groups", lift.count(4), 90);
        CHECKS.refusesIndex("group(90, 0)", lift, x -> x.group(90, 0));
    }

    private static void promise20AdviseRefuses() {
        ChairLift lift = busy();
        for (int size : new int[] {Integer.MIN_VALUE, -1, 0, 7, Integer.MAX_VALUE}) {
            CHECKS.refusesArgument("advise of a wrong size", lift, x -> x.advise(size));
        }
    }

    private static void promise21Needs() {
        ChairLift lift = Lifts.lift(1, 1, 1, 1);
        lift.want(0);
        Lifts.join(lift, 0, 1, 1, 1, 1, 1, 1);
        CHECKS.same("one for the first ride", lift.needs(1, 3), 1);
        CHECKS.same("not in two steps", lift.needs(1, 2), -1);
        CHECKS.same("two one behind the other", lift.needs(2, 4), 2);
        CHECKS.same("three one behind the other", lift.needs(3, 5), 3);
        CHECKS.same("no fourth one", lift.needs(4, 6), -1);
        CHECKS.same("the first one again", lift.needs(4, 7), 3);
        CHECKS.same("one chair in two rounds", lift.needs(2, 7), 1);
        CHECKS.same("all of them", lift.needs(6, 100), 1);
        CHECKS.same("more than there are", lift.needs(7, 100), -1);
        lift.want(3);
        CHECKS.same("what is wanted now does not count", lift.needs(2, 7), 1);
        lift.pass(2);
        CHECKS.same("two ride already", lift.needs(2, 2), 0);
        CHECKS.same("one is up in the next step", lift.needs(1, 1), 0);
        CHECKS.same("but not two", lift.needs(2, 1), -1);
        CHECKS.same("a third one is needed", lift.needs(3, 3), 3);
        CHECKS.same("the two on the rope, as the first one is back soonest", lift.needs(3, 5), 2);
        CHECKS.same("none without chairs", Lifts.lift(1).needs(1, 100), -1);
        CHECKS.same("the limits", lift.needs(500, 100), -1);
    }

    private static void promise21NeedsLooksAtAllWanted() {
        ChairLift lift = new ChairLift();
        lift.stretch(12);
        lift.addLane();
        for (int chair = 0; chair < 20; chair++) {
            lift.addChair(1);
        }
        for (int group = 0; group < 20; group++) {
            lift.join(0, 1, 200);
        }
        for (int many = 1; many <= 20; many++) {
            CHECKS.same("people one behind the other", lift.needs(many, 12 + many), many);
        }
        CHECKS.same("not more than there are", lift.needs(20, 31), -1);
        CHECKS.same("in the next round", lift.needs(20, 37 + 18), 2 + 8);
    }

    private static void promise21NeedsRefuses() {
        ChairLift lift = busy();
        for (int people : new int[] {Integer.MIN_VALUE, -1, 0, 501, Integer.MAX_VALUE}) {
            CHECKS.refusesArgument("needs of wrong people", lift, x -> x.needs(people, 1));
        }
        for (int steps : new int[] {Integer.MIN_VALUE, -1, 0, 101, Integer.MAX_VALUE}) {
            CHECKS.refusesArgument("needs of wrong steps", lift, x -> x.needs(1, steps));
        }
    }

    private static void promise22Mean() {
        ChairLift lift = Lifts.lift(1, 5, 2);
        CHECKS.same("at first", lift.mean(), 0.0);
        lift.pass(1);
        CHECKS.same("when the chair took none", lift.mean(), 0.0);
        Lifts.join(lift, 0, 1, 1, 1);
        lift.pass(1);
        CHECKS.same("two riders in one step", lift.mean(), 2.0);
        lift.pass(2);
        CHECKS.same("two steps without", lift.mean(), 2.0);
        lift.pass(1);
        CHECKS.same("three riders in two steps", lift.mean(), 1.5);
        Lifts.join(lift, 0, 1);
        lift.pass(1);
        CHECKS.same("four riders in three steps", lift.mean(), 4.0 / 3.0);
        lift.pass(100);
        CHECKS.same("long behind", lift.mean(), 4.0 / 3.0);
    }

    private static void promise23DigestOfANewLift() {
        // 677 goes through 37 numbers; all but half, which has 24 behind it, are 0.
        long due = 677 * power31(37) + 6 * power31(24);
        CHECKS.same("the digest of a new lift", new ChairLift().digest(), due);
    }

    private static long power31(int exponent) {
        long power = 1;
        for (int number = 0; number < exponent; number++) {
            power *= 31;
        }
        return power;
    }

    private static void promise23Digest() {
        ChairLift lift = Lifts.lift(0);
        CHECKS.same("without anything", lift.digest(), Checks.digestOf(lift));
        lift = Lifts.lift(3, 1, 2, 3, 4, 5, 6);
        lift.want(2);
        CHECKS.same("without groups", lift.digest(), Checks.digestOf(lift));
        for (int group = 0; group < 40; group++) {
            lift.join(group % 3, group % 6 + 1, group + 5);
            lift.setWind(group % 24, group % 10);
            lift.pass(1);
            CHECKS.same("with groups", lift.digest(), Checks.digestOf(lift));
        }
        CHECKS.isTrue("something waits in two lanes", lift.lane(0, 0) > 0 && lift.lane(1, 0) > 0);
        lift = busy();
        CHECKS.same("of a busy lift", lift.digest(), Checks.digestOf(lift));
        lift.shut(0, true);
        lift.want(0);
        lift.pass(30);
        CHECKS.same("of a busy lift later", lift.digest(), Checks.digestOf(lift));
    }

    private static void nothingIsChanged() {
        ChairLift lift = busy();
        String before = Checks.allOf(lift);
        for (int what = 0; what < 3; what++) {
            lift.foresee(150, what);
            CHECKS.same("what there is behind foresee", Checks.allOf(lift), before);
        }
        for (int group = 0; group < lift.count(4); group++) {
            lift.when(group);
            CHECKS.same("what there is behind when", Checks.allOf(lift), before);
        }
        for (int size = 1; size <= 6; size++) {
            lift.advise(size);
            CHECKS.same("what there is behind advise", Checks.allOf(lift), before);
        }
        lift.needs(1, 100);
        lift.needs(500, 100);
        CHECKS.same("what there is behind needs", Checks.allOf(lift), before);
        CHECKS.same("the same behind the same steps", behindSteps(lift), behindSteps(busy()));
    }

    private static String behindSteps(ChairLift lift) {
        return lift.pass(40) + " " + Checks.allOf(lift);
    }
}
