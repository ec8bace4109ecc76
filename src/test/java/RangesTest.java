import java.util.function.IntFunction;
import java.util.function.Supplier;

/**
 * Every argument of every call: the least and the greatest number that the document allows are taken, the numbers
 * beside them and those far off are refused with the exception that it names, and a refused call changes nothing.
 */
public final class RangesTest {
    private interface Way {
        void on(ChairLift lift, int number);
    }

    private static final Checks CHECKS = new Checks();
    private static final Class<?> INDEX = IndexOutOfBoundsException.class;
    private static final Class<?> ARGUMENT = IllegalArgumentException.class;

    private static final int[] NO_LANE_TO_ALL = {0, 1, 2, 3, 4};
    private static final int[] NO_CHAIR_TO_ALL = {0, 1, 2, 19, 20};
    private static final int[] NO_GROUP_TO_ALL = {0, 1, 2, 89, 90};

    public static void main(String[] args) {
        promise2Half();
        promise3Seats();
        promise4Many();
        promise6Lane();
        promise7AtAndWind();
        promise8Lane();
        promise8SizeAndPatience();
        promise9GroupAndLane();
        promise10Group();
        promise11GroupAndWhat();
        promise12ChairAndWhat();
        promise13LaneAndWhat();
        promise14LaneAndIndex();
        promise15Index();
        promise16Steps();
        promise17What();
        promise18StepsAndWhat();
        promise19Group();
        promise20Size();
        promise21PeopleAndSteps();
        CHECKS.end();
    }

    /** The numbers that a call takes are least to most; each is tried on a lift of its own. */
    private static void range(String what, Class<?> refusal, int least, int most, Supplier<ChairLift> lifts, Way way) {
        for (int number = least; number <= most; number++) {
            int taken = number;
            CHECKS.takes(what + " with " + taken, lifts.get(), x -> way.on(x, taken));
        }
        ChairLift lift = lifts.get();
        int[] beyond = {least - 1, most + 1, least - 2, most + 2, -1000, 1000, 1 << 16, 1 << 31, Integer.MIN_VALUE + 1,
            Integer.MAX_VALUE};
        for (int number : beyond) {
            CHECKS.refuses(what + " with " + number, refusal, lift, x -> way.on(x, number));
        }
    }

    /** The numbers that a call takes are those of the things that there are. */
    private static void numbers(String what, int[] counts, IntFunction<ChairLift> lifts, Way way) {
        for (int count : counts) {
            range(what + ", of " + count, INDEX, 0, count - 1, () -> lifts.apply(count), way);
        }
    }

    private static ChairLift lanes(int count) {
        return Lifts.withAll(20, count, 0);
    }

    private static ChairLift chairs(int count) {
        return Lifts.withAll(count, 4, 90);
    }

    private static ChairLift groups(int count) {
        return Lifts.withAll(20, 4, count);
    }

    private static ChairLift groupsInOneLane(int count) {
        return Lifts.withAll(20, 1, count);
    }

    private static ChairLift all() {
        return Lifts.withAll(20, 4, 90);
    }

    private static ChairLift some() {
        return Lifts.withAll(3, 2, 5);
    }

    private static void promise2Half() {
        range("stretch(half)", ARGUMENT, 2, 12, ChairLift::new, (x, n) -> x.stretch(n));
        range("stretch(half), chairs in the shed", ARGUMENT, 2, 12, RangesTest::all, (x, n) -> x.stretch(n));
    }

    private static void promise3Seats() {
        range("addChair(seats)", ARGUMENT, 1, 6, ChairLift::new, (x, n) -> x.addChair(n));
        range("addChair(seats) as the last one", ARGUMENT, 1, 6, () -> chairs(19), (x, n) -> x.addChair(n));
    }

    private static void promise4Many() {
        range("want(many) without chairs", ARGUMENT, 0, 20, ChairLift::new, (x, n) -> x.want(n));
        range("want(many) with all chairs", ARGUMENT, 0, 20, RangesTest::all, (x, n) -> x.want(n));
    }

    private static void promise6Lane() {
        numbers("shut(lane, true)", NO_LANE_TO_ALL, RangesTest::lanes, (x, n) -> x.shut(n, true));
        numbers("shut(lane, false)", NO_LANE_TO_ALL, RangesTest::lanes, (x, n) -> x.shut(n, false));
    }

    private static void promise7AtAndWind() {
        range("setWind(at, 0)", INDEX, 0, 23, ChairLift::new, (x, n) -> x.setWind(n, 0));
        range("setWind(at, 9)", INDEX, 0, 23, RangesTest::all, (x, n) -> x.setWind(n, 9));
        range("setWind(0, wind)", ARGUMENT, 0, 9, ChairLift::new, (x, n) -> x.setWind(0, n));
        range("setWind(23, wind)", ARGUMENT, 0, 9, RangesTest::all, (x, n) -> x.setWind(23, n));
    }

    private static void promise8Lane() {
        numbers("join(lane, 1, 1)", NO_LANE_TO_ALL, RangesTest::lanes, (x, n) -> x.join(n, 1, 1));
        numbers("join(lane, 6, 200)", NO_LANE_TO_ALL, RangesTest::lanes, (x, n) -> x.join(n, 6, 200));
    }

    private static void promise8SizeAndPatience() {
        for (int count : new int[] {0, 89}) {
            Supplier<ChairLift> lifts = () -> groups(count);
            range("join(3, size, 1)", ARGUMENT, 1, 6, lifts, (x, n) -> x.join(3, n, 1));
            range("join(0, size, 200)", ARGUMENT, 1, 6, lifts, (x, n) -> x.join(0, n, 200));
            range("join(0, 1, patience)", ARGUMENT, 1, 200, lifts, (x, n) -> x.join(0, 1, n));
            range("join(3, 6, patience)", ARGUMENT, 1, 200, lifts, (x, n) -> x.join(3, 6, n));
        }
    }

    private static void promise9GroupAndLane() {
        numbers("change(group, 3)", NO_GROUP_TO_ALL, RangesTest::groups, (x, n) -> x.change(n, 3));
        numbers("change(group, 0) in one lane", NO_GROUP_TO_ALL, RangesTest::groupsInOneLane, (x, n) -> x.change(n, 0));
        for (int count = 1; count <= 4; count++) {
            int lanes = count;
            range("change(0, lane)", INDEX, 0, lanes - 1, () -> Lifts.withAll(20, lanes, 90), (x, n) -> x.change(0, n));
            range("change(89, lane)", INDEX, 0, lanes - 1, () -> Lifts.withAll(20, lanes, 90),
                    (x, n) -> x.change(89, n));
        }
    }

    private static void promise10Group() {
        numbers("leave(group)", NO_GROUP_TO_ALL, RangesTest::groups, (x, n) -> x.leave(n));
    }

    private static void promise11GroupAndWhat() {
        numbers("group(group, 0)", NO_GROUP_TO_ALL, RangesTest::groups, (x, n) -> x.group(n, 0));
        numbers("group(group, 7)", NO_GROUP_TO_ALL, RangesTest::groups, (x, n) -> x.group(n, 7));
        range("group(0, what)", INDEX, 0, 7, RangesTest::some, (x, n) -> x.group(0, n));
        range("group(89, what)", INDEX, 0, 7, RangesTest::all, (x, n) -> x.group(89, n));
    }

    private static void promise12ChairAndWhat() {
        numbers("chair(chair, 0)", NO_CHAIR_TO_ALL, RangesTest::chairs, (x, n) -> x.chair(n, 0));
        numbers("chair(chair, 4)", NO_CHAIR_TO_ALL, RangesTest::chairs, (x, n) -> x.chair(n, 4));
        range("chair(0, what)", INDEX, 0, 4, RangesTest::some, (x, n) -> x.chair(0, n));
        range("chair(19, what)", INDEX, 0, 4, RangesTest::all, (x, n) -> x.chair(19, n));
    }

    private static void promise13LaneAndWhat() {
        numbers("lane(lane, 0)", NO_LANE_TO_ALL, RangesTest::lanes, (x, n) -> x.lane(n, 0));
        numbers("lane(lane, 3)", NO_LANE_TO_ALL, RangesTest::lanes, (x, n) -> x.lane(n, 3));
        range("lane(0, what)", INDEX, 0, 3, RangesTest::some, (x, n) -> x.lane(0, n));
        range("lane(3, what)", INDEX, 0, 3, RangesTest::all, (x, n) -> x.lane(3, n));
    }

    private static void promise14LaneAndIndex() {
        numbers("queue(lane, 0)", NO_LANE_TO_ALL, count -> Lifts.withAll(0, count, 2 * count), (x, n) -> x.queue(n, 0));
        numbers("queue(lane, 1)", NO_LANE_TO_ALL, count -> Lifts.withAll(0, count, 2 * count), (x, n) -> x.queue(n, 1));
        numbers("queue(0, index)", NO_GROUP_TO_ALL, RangesTest::groupsInOneLane, (x, n) -> x.queue(0, n));
        // Of 6 groups in 4 lanes by turns, two are in the lane 1 and one in the lane 3.
        range("queue(1, index)", INDEX, 0, 1, () -> groups(6), (x, n) -> x.queue(1, n));
        range("queue(3, index)", INDEX, 0, 0, () -> groups(6), (x, n) -> x.queue(3, n));
    }

    private static void promise15Index() {
        numbers("shed(index)", NO_CHAIR_TO_ALL, RangesTest::chairs, (x, n) -> x.shed(n));
    }

    private static void promise16Steps() {
        range("pass(steps)", ARGUMENT, 1, 200, ChairLift::new, (x, n) -> x.pass(n));
        range("pass(steps) with all", ARGUMENT, 1, 200, RangesTest::all, (x, n) -> x.pass(n));
    }

    private static void promise17What() {
        range("count(what)", INDEX, 0, 12, ChairLift::new, (x, n) -> x.count(n));
        range("count(what) with all", INDEX, 0, 12, RangesTest::all, (x, n) -> x.count(n));
    }

    private static void promise18StepsAndWhat() {
        for (int number = 0; number <= 2; number++) {
            int what = number;
            range("foresee(steps, " + what + ")", ARGUMENT, 1, 150, RangesTest::some, (x, n) -> x.foresee(n, what));
        }
        range("foresee(1, what)", INDEX, 0, 2, ChairLift::new, (x, n) -> x.foresee(1, n));
        range("foresee(150, what)", INDEX, 0, 2, RangesTest::all, (x, n) -> x.foresee(150, n));
    }

    private static void promise19Group() {
        numbers("when(group)", NO_GROUP_TO_ALL, RangesTest::groups, (x, n) -> x.when(n));
    }

    private static void promise20Size() {
        range("advise(size) without lanes", ARGUMENT, 1, 6, ChairLift::new, (x, n) -> x.advise(n));
        range("advise(size) with all", ARGUMENT, 1, 6, RangesTest::all, (x, n) -> x.advise(n));
    }

    private static void promise21PeopleAndSteps() {
        range("needs(people, 1)", ARGUMENT, 1, 500, ChairLift::new, (x, n) -> x.needs(n, 1));
        range("needs(people, 100)", ARGUMENT, 1, 500, RangesTest::some, (x, n) -> x.needs(n, 100));
        range("needs(1, steps)", ARGUMENT, 1, 100, ChairLift::new, (x, n) -> x.needs(1, n));
        range("needs(500, steps)", ARGUMENT, 1, 100, RangesTest::all, (x, n) -> x.needs(500, n));
    }
}
