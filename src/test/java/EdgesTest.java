/** The edges of what there is: empty, full and round again, for the rope, the shed, the lanes, the groups, the wind. */
public final class EdgesTest {
    private static final Checks CHECKS = new Checks();

    public static void main(String[] args) {
        ropeGoesRoundForEachHalf();
        ropeWithAChairAtEachPlace();
        ropeWithMorePlacesThanChairs();
        ropeWithoutChairs();
        ropeIsFreeAgain();
        shedFullInTheOrderOfAdding();
        shedEmptyThenANewChair();
        shedFullAgainInTheOrderOfComingBack();
        shedOfOne();
        wantMoreThanThereAre();
        wantAsManyAsThereAre();
        lanesNoneAndTheTurn();
        lanesTurnRoundForEachNumber();
        lanesNewOneBehindTheLast();
        queueEmpty();
        queueOfOne();
        queueOfNinety();
        queueGrowsShorter();
        groupsNinetyAllUp();
        groupsNinetyAllLeft();
        groupsTheLastOneIsLikeOthers();
        windEachStepOfTheTable();
        windAtTheLimitsInEvenAndOddSteps();
        callsUpTo512();
        callsBehind512();
        CHECKS.end();
    }

    // ---- rope

    private static void ropeGoesRoundForEachHalf() {
        for (int half = 2; half <= 12; half++) {
            ChairLift lift = Lifts.lift(0, 1);
            lift.stretch(half);
            for (int step = 0; step < 6 * half; step++) {
                lift.pass(1);
                CHECKS.same("half " + half + ", the place behind the step " + step, lift.chair(0, 1),
                        step % (2 * half));
            }
        }
    }

    private static void ropeWithAChairAtEachPlace() {
        ChairLift lift = Lifts.withAll(20, 0, 0);
        lift.stretch(2);
        lift.want(20);
        for (int step = 0; step < 4; step++) {
            lift.pass(1);
            CHECKS.same("one more chair", lift.count(2), step + 1);
        }
        for (int step = 4; step < 20; step++) {
            lift.pass(1);
            CHECKS.same("no place for a fifth one", lift.count(2), 4);
            CHECKS.same("the shed", Checks.shed(lift), "4 5 6 7 8 9 10 11 12 13 14 15 16 17 18 19");
            for (int chair = 0; chair < 4; chair++) {
                CHECKS.same("its place", lift.chair(chair, 1), (step - chair) % 4);
            }
        }
    }

    private static void ropeWithMorePlacesThanChairs() {
        ChairLift lift = Lifts.withAll(20, 0, 0);
        lift.stretch(12);
        lift.want(20);
        lift.pass(20);
        CHECKS.same("all are on the rope", lift.count(2), 20);
        CHECKS.refusesIndex("shed(0) of an empty shed", lift, x -> x.shed(0));
        CHECKS.refusesState("stretch(12) with all on the rope", lift, x -> x.stretch(12));
        for (int step = 20; step < 70; step++) {
            lift.pass(1);
            for (int chair = 0; chair < 20; chair++) {
                CHECKS.same("its place", lift.chair(chair, 1), (step - chair) % 24);
            }
        }
        lift.want(19);
        // Behind the step 69 the chair 0 is at the place 21, the first one of all: it is at the valley in the step 72.
        lift.pass(2);
        CHECKS.same("none is at the valley", Checks.shed(lift), "");
        lift.pass(1);
        CHECKS.same("the first one at the valley", Checks.shed(lift), "0");
        lift.pass(48);
        CHECKS.same("one was too many, no more", Checks.shed(lift), "0");
    }

    private static void ropeWithoutChairs() {
        ChairLift lift = Lifts.lift(1);
        lift.want(20);
        Lifts.join(lift, 0, 1);
        CHECKS.same("nobody comes up", lift.pass(48), 0);
        CHECKS.same("the rope moves all the same", lift.count(9), 0);
        CHECKS.same("the counts", Checks.counts(lift), "48 0 0 1 1 1 0 0 0 0 0 0 2");
        lift.setWind(0, 9);
        lift.pass(1);
        CHECKS.same("or stands", lift.count(9), 1);
        CHECKS.same("nobody is colder", lift.count(11), 0);
        CHECKS.takes("it is free", lift, x -> x.stretch(12));
    }

    private static void ropeIsFreeAgain() {
        ChairLift lift = Lifts.lift(0, 1);
        CHECKS.takes("before the first step", lift, x -> x.stretch(2));
        lift.pass(1);
        lift.want(0);
        for (int place = 0; place < 4; place++) {
            CHECKS.same("its place", lift.chair(0, 1), place);
            CHECKS.refusesState("stretch(5) with one at " + place, lift, x -> x.stretch(5));
            lift.pass(1);
        }
        CHECKS.same("half before", lift.stretch(5), 2);
        lift.want(1);
        lift.pass(10);
        CHECKS.same("the last place of a longer rope", lift.chair(0, 1), 9);
        lift.pass(1);
        CHECKS.same("round again", lift.chair(0, 1), 0);
    }

    // ---- shed

    private static void shedFullInTheOrderOfAdding() {
        ChairLift lift = Lifts.withAll(20, 0, 0);
        for (int index = 0; index < 20; index++) {
            CHECKS.same("shed(" + index + ")", lift.shed(index), index);
        }
        CHECKS.refusesIndex("shed(20)", lift, x -> x.shed(20));
    }

    private static void shedEmptyThenANewChair() {
        ChairLift lift = new ChairLift();
        CHECKS.refusesIndex("shed(0) without chairs", lift, x -> x.shed(0));
        lift.addChair(2);
        CHECKS.same("shed(0)", lift.shed(0), 0);
        lift.want(1);
        lift.pass(1);
        CHECKS.refusesIndex("shed(0) with all on the rope", lift, x -> x.shed(0));
        lift.addChair(3);
        CHECKS.same("the new one", Checks.shed(lift), "1");
    }

    private static void shedFullAgainInTheOrderOfComingBack() {
        ChairLift lift = Lifts.withAll(20, 0, 0);
        lift.stretch(12);
        lift.want(20);
        // Behind the step 33 the chair 10 is at the place 23: it is the first one at the valley, in the step 34.
        lift.pass(34);
        lift.want(0);
        lift.pass(24);
        CHECKS.same("all are in the shed", lift.count(2), 0);
        CHECKS.same("the shed", Checks.shed(lift), "10 11 12 13 14 15 16 17 18 19 0 1 2 3 4 5 6 7 8 9");
        CHECKS.same("the place of each", lift.chair(19, 1), -1);
        lift.want(1);
        lift.pass(1);
        CHECKS.same("the first of the row comes", lift.chair(10, 1), 0);
        CHECKS.refusesIndex("shed(19) with one on the rope", lift, x -> x.shed(19));
    }

    private static void shedOfOne() {
        ChairLift lift = Lifts.lift(0, 1);
        lift.pass(1);
        lift.want(0);
        lift.pass(4);
        CHECKS.same("it comes back", Checks.shed(lift), "0");
        lift.want(1);
        lift.pass(1);
        CHECKS.same("it goes again", Checks.shed(lift), "");
        CHECKS.same("its place", lift.chair(0, 1), 0);
    }

    private static void wantMoreThanThereAre() {
        ChairLift lift = Lifts.lift(0, 1, 2);
        lift.want(20);
        lift.pass(40);
        CHECKS.same("all there are", lift.count(2), 2);
        lift.addChair(3);
        // Behind the step 39 the chairs are at the places 3 and 2; the first free one at the valley is in step 42.
        lift.pass(2);
        CHECKS.same("no place yet", lift.count(2), 2);
        lift.pass(1);
        CHECKS.same("a later one too", lift.chair(2, 1), 0);
    }

    private static void wantAsManyAsThereAre() {
        ChairLift lift = Lifts.withAll(20, 0, 0);
        lift.stretch(12);
        lift.want(20);
        lift.pass(100);
        CHECKS.same("all of them stay", lift.count(2), 20);
        lift.want(0);
        lift.pass(24);
        CHECKS.same("none of them stays", lift.count(2), 0);
        lift.pass(24);
        CHECKS.same("none comes", lift.count(2), 0);
    }

    // ---- lanes

    private static void lanesNoneAndTheTurn() {
        ChairLift lift = Lifts.lift(0, 3);
        lift.pass(9);
        CHECKS.same("the turn without lanes", lift.count(10), 0);
        CHECKS.same("people up", lift.count(7), 0);
        CHECKS.same("the mean", lift.mean(), 0.0);
        lift.addLane();
        lift.pass(9);
        CHECKS.same("the turn with a lane that nobody is in", lift.count(10), 0);
    }

    private static void lanesTurnRoundForEachNumber() {
        for (int lanes = 1; lanes <= 4; lanes++) {
            ChairLift lift = Lifts.lift(lanes, 1, 1, 1, 1);
            for (int lane = 0; lane < lanes; lane++) {
                Lifts.join(lift, lane, 1, 1, 1);
            }
            for (int step = 0; step < 3 * lanes; step++) {
                lift.pass(1);
                CHECKS.same("the turn of " + lanes, lift.count(10), (step + 1) % lanes);
                CHECKS.same("taken from it", lift.lane(step % lanes, 3), step / lanes + 1);
            }
            lift.pass(8);
            CHECKS.same("the turn when nobody waits", lift.count(10), 0);
        }
    }

    private static void lanesNewOneBehindTheLast() {
        ChairLift lift = Lifts.lift(2, 1, 1, 1, 1);
        Lifts.join(lift, 1, 1, 1);
        Lifts.join(lift, 0, 1);
        lift.pass(2);
        CHECKS.same("behind the last one it is the lane 0", lift.count(10), 0);
        lift.pass(1);
        CHECKS.same("round", lift.lane(1, 3), 2);
        CHECKS.same("the turn", lift.count(10), 0);
        lift.addLane();
        Lifts.join(lift, 1, 1);
        lift.pass(1);
        CHECKS.same("the lane 1 is the last one no more", lift.count(10), 2);
    }

    // ---- queues

    private static void queueEmpty() {
        ChairLift lift = Lifts.lift(4, 6);
        for (int lane = 0; lane < 4; lane++) {
            int number = lane;
            CHECKS.same("nobody is in it", Checks.lane(lift, lane), "0 0 0 0");
            CHECKS.refusesIndex("queue(" + lane + ", 0)", lift, x -> x.queue(number, 0));
        }
        CHECKS.same("the chair takes none", lift.pass(1), 0);
        CHECKS.same("the chair", Checks.chair(lift, 0), "6 0 0 0 0");
        CHECKS.same("it comes up with none", lift.pass(2), 0);
    }

    private static void queueOfOne() {
        ChairLift lift = Lifts.lift(2);
        lift.join(0, 6, 200);
        CHECKS.same("ahead of it in its own", lift.change(0, 0), 0);
        CHECKS.same("the queue", Checks.queue(lift, 0), "0");
        CHECKS.same("ahead of it in the other one", lift.change(0, 1), 0);
        CHECKS.refusesIndex("queue(0, 0)", lift, x -> x.queue(0, 0));
        CHECKS.same("its lane", lift.leave(0), 1);
        CHECKS.refusesIndex("queue(1, 0)", lift, x -> x.queue(1, 0));
        CHECKS.same("the lane that it left", Checks.lane(lift, 1), "0 0 0 0");
        lift.join(1, 1, 200);
        CHECKS.same("the queue", Checks.queue(lift, 1), "1");
    }

    private static void queueOfNinety() {
        ChairLift lift = Lifts.withAll(0, 2, 0);
        for (int group = 0; group < 90; group++) {
            lift.join(0, group % 6 + 1, 200);
        }
        CHECKS.same("lane 0", Checks.lane(lift, 0), "90 315 0 0");
        CHECKS.same("the last one", lift.queue(0, 89), 89);
        CHECKS.refusesIndex("queue(0, 90)", lift, x -> x.queue(0, 90));
        CHECKS.same("the first one to the end", lift.change(0, 0), 89);
        CHECKS.same("it is the last one", lift.queue(0, 89), 0);
        CHECKS.same("the next one is the first one", lift.queue(0, 0), 1);
        CHECKS.same("the last one to the end", lift.change(0, 0), 89);
        CHECKS.same("it stays there", lift.queue(0, 89), 0);
        for (int group = 0; group < 90; group++) {
            CHECKS.same("ahead of it in the other one", lift.change(group, 1), group);
        }
        CHECKS.same("lane 0", Checks.lane(lift, 0), "0 0 0 0");
        CHECKS.same("lane 1", Checks.lane(lift, 1), "90 315 0 0");
    }

    private static void queueGrowsShorter() {
        ChairLift lift = Lifts.withAll(0, 1, 90);
        for (int left = 0; left < 90; left++) {
            CHECKS.same("the last one", lift.queue(0, 89 - left), 89);
            CHECKS.same("groups in it", lift.lane(0, 0), 90 - left);
            CHECKS.same("people in it", lift.lane(0, 1), 6 * (90 - left));
            CHECKS.same("the first one leaves", lift.leave(left), 0);
            int places = 89 - left;
            CHECKS.refusesIndex("queue(0, " + places + ")", lift, x -> x.queue(0, places));
        }
        CHECKS.same("people who have left", lift.count(8), 540);
    }

    // ---- groups

    private static void groupsNinetyAllUp() {
        ChairLift lift = Lifts.lift(4, 6, 6, 6, 6);
        for (int group = 0; group < 90; group++) {
            lift.join(group % 4, 6, 200);
        }
        CHECKS.same("all wait", lift.count(5), 540);
        // One boards in each of the steps 0 to 89, from the lanes in turn, and is up two steps later.
        CHECKS.same("all but one are up", lift.pass(91), 534);
        CHECKS.same("the last one rides", lift.count(6), 6);
        CHECKS.same("the last one is up", lift.pass(1), 6);
        CHECKS.same("the counts", Checks.counts(lift), "92 4 4 4 90 0 0 540 0 0 2 0 2");
        CHECKS.same("the mean", lift.mean(), 6.0);
        CHECKS.same("lane 1", Checks.lane(lift, 1), "0 0 0 138");
        CHECKS.same("lane 2", Checks.lane(lift, 2), "0 0 0 132");
        CHECKS.same("taken by the chairs", Checks.row(lift.chair(0, 4), lift.chair(1, 4), lift.chair(2, 4),
                lift.chair(3, 4)), "138 138 132 132");
        CHECKS.refusesState("join with 90 that are up", lift, x -> x.join(0, 1, 1));
        CHECKS.same("nobody is left to come up", lift.foresee(150, 0), 0);
    }

    private static void groupsNinetyAllLeft() {
        ChairLift lift = Lifts.lift(3, 5);
        for (int group = 0; group < 90; group++) {
            lift.join(group % 3, 6, 1);
        }
        CHECKS.same("all wait", lift.count(5), 540);
        lift.pass(1);
        CHECKS.same("the counts", Checks.counts(lift), "1 1 1 3 90 0 0 0 540 0 0 0 2");
        for (int lane = 0; lane < 3; lane++) {
            CHECKS.same("lane " + lane, Checks.lane(lift, lane), "0 0 0 0");
        }
        CHECKS.same("the first one", Checks.group(lift, 0), "6 1 3 -1 -1 0 -1 0");
        CHECKS.same("the last one", Checks.group(lift, 89), "6 1 3 -1 -1 0 -1 0");
        CHECKS.same("the mean", lift.mean(), 0.0);
    }

    private static void groupsTheLastOneIsLikeOthers() {
        ChairLift lift = Lifts.lift(2, 6);
        for (int group = 0; group < 90; group++) {
            lift.join(1, 6, 200);
        }
        for (int group = 0; group < 89; group++) {
            lift.leave(group);
        }
        CHECKS.same("ahead of it", lift.change(89, 0), 0);
        CHECKS.same("behind how many steps", lift.when(89), 3);
        lift.pass(1);
        lift.setWind(1, 8);
        lift.pass(1);
        CHECKS.same("it rides", Checks.group(lift, 89), "6 200 1 -1 0 0 -1 1");
        CHECKS.same("all colder", lift.count(11), 6);
        CHECKS.same("it is up", lift.pass(2), 6);
        CHECKS.same("the group", Checks.group(lift, 89), "6 200 2 -1 -1 0 3 1");
        CHECKS.same("behind how many steps", lift.when(89), 0);
    }

    // ---- wind

    private static void windEachStepOfTheTable() {
        for (int at = 0; at < 24; at++) {
            ChairLift lift = new ChairLift();
            lift.setWind(at, 8);
            if (at > 0) {
                lift.pass(at);
            }
            for (int round = 0; round < 4; round++) {
                CHECKS.same("before the step " + at, lift.count(9), round);
                lift.pass(1);
                CHECKS.same("behind the step " + at, lift.count(9), round + 1);
                lift.pass(23);
            }
        }
    }

    private static void windAtTheLimitsInEvenAndOddSteps() {
        for (int step : new int[] {1, 2, 3, 22, 23, 24, 25, 47, 48, 49}) {
            for (int wind = 0; wind <= 9; wind++) {
                ChairLift lift = Lifts.lift(1, 6);
                Lifts.join(lift, 0, 5, 2);
                lift.pass(1);
                Lifts.moveOnlyAt(lift, -1);
                if (step > 1) {
                    lift.pass(step - 1);
                }
                lift.setWind(step % 24, wind);
                String what = " in the step " + step + " with wind " + wind;
                boolean moves = wind <= 4 || wind <= 7 && step % 2 == 0;
                lift.pass(1);
                CHECKS.same("the place" + what, lift.chair(0, 1), moves ? 1 : 0);
                CHECKS.same("stood" + what, lift.count(9), moves ? step - 1 : step);
                CHECKS.same("who rides" + what, lift.group(0, 7), wind >= 8 ? step : step - 1);
                CHECKS.same("who waits" + what, lift.group(1, 7), 0);
                CHECKS.same("all of them" + what, lift.count(11), 5 * lift.group(0, 7));
            }
        }
    }

    // ---- calls

    private static void callsUpTo512() {
        ChairLift lift = new ChairLift();
        lift.setWind(23, 5);
        for (int call = 2; call <= 511; call++) {
            CHECKS.same("nobody is up", lift.pass(200), 0);
        }
        // 102,000 steps are 4,250 rounds of the table.
        CHECKS.same("the steps that stood, in the 512th call", lift.count(9), 4250);

        ChairLift round = Lifts.lift(1, 1, 1);
        round.pass(98);
        for (int call = 7; call <= 510; call++) {
            round.pass(199);
        }
        round.join(0, 1, 200);
        // Behind 100,394 steps the chairs are at the places 1 and 0: the first one is at the valley three steps on.
        CHECKS.same("behind how many steps, in the 512th call", round.when(0), 5);
    }

    /** What they answer is free, but the Java machine itself never throws, and each call ends. */
    private static void callsBehind512() {
        ChairLift lift = Lifts.withAll(20, 4, 90);
        lift.want(20);
        for (int call = 1; call <= 1000; call++) {
            CHECKS.takes("a call behind many", lift, x -> x.pass(200));
        }
        for (int number : new int[] {Integer.MIN_VALUE, -1, 0, 1, 2, 3, 23, 24, 89, 90, Integer.MAX_VALUE}) {
            callsAll(lift, number);
        }
    }

    private static void callsAll(ChairLift lift, int number) {
        Checks.Call[] calls = {x -> x.stretch(number), x -> x.addChair(number), x -> x.want(number), x -> x.addLane(),
            x -> x.shut(number, true), x -> x.setWind(number, number), x -> x.join(number, number, number),
            x -> x.change(number, number), x -> x.leave(number), x -> x.group(number, number),
            x -> x.chair(number, number), x -> x.lane(number, number), x -> x.queue(number, number),
            x -> x.shed(number), x -> x.pass(number), x -> x.count(number), x -> x.foresee(number, number),
            x -> x.when(number), x -> x.advise(number), x -> x.needs(number, number), x -> x.mean(), x -> x.digest()};
        for (Checks.Call call : calls) {
            try {
                call.on(lift);
            } catch (IndexOutOfBoundsException e) {
                CHECKS.isTrue("it is the program's own: " + e, e.getClass() == IndexOutOfBoundsException.class);
            } catch (IllegalArgumentException | IllegalStateException e) {
                CHECKS.isTrue("it is the program's own: " + e, e.getClass().getName().startsWith("java.lang.Illegal"));
            }
        }
    }
}
