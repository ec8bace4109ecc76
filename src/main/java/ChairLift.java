/** A chairlift: chairs on a rope that goes round, and the groups that queue for them. */
public final class ChairLift {
    private static final int NONE = -1;

    private static final int MIN_HALF = 2;
    private static final int MAX_HALF = 12;
    private static final int HALF_AT_FIRST = 6;
    private static final int MAX_CHAIRS = 20;
    private static final int MAX_SEATS = 6;
    private static final int MAX_LANES = 4;
    private static final int MAX_GROUPS = 90;
    // advise() tries one group more than can join.
    private static final int ROOM_FOR_GROUPS = MAX_GROUPS + 1;
    private static final int MAX_SIZE = 6;
    private static final int MAX_PATIENCE = 200;

    private static final int WINDS = 24;
    private static final int MAX_WIND = 9;
    private static final int WIND_THAT_SLOWS = 5;
    private static final int WIND_THAT_STOPS = 8;

    private static final int WAITS = 0;
    private static final int RIDES = 1;
    private static final int UP = 2;
    private static final int LEFT = 3;

    private static final int GROUP_FACTS = 8;
    private static final int CHAIR_FACTS = 5;
    private static final int LANE_FACTS = 4;
    private static final int COUNT_FACTS = 13;
    private static final int FORESEE_FACTS = 3;

    private static final int MAX_STEPS_TO_PASS = 200;
    private static final int MAX_STEPS_TO_FORESEE = 150;
    private static final int MAX_STEPS_OF_WHEN = 250;
    private static final int MAX_STEPS_OF_ADVICE = 200;
    private static final int MAX_STEPS_OF_NEED = 100;
    private static final int MAX_PEOPLE_OF_NEED = 500;

    private static final long DIGEST_START = 677L;
    private static final long DIGEST_FACTOR = 31L;

    private final Lift lift;
    // Made once and written over by each look ahead, so that no call makes objects.
    private final Lift trial;

    public ChairLift() {
        lift = new Lift();
        trial = new Lift();
    }

    // ---- rope, chairs, lanes, wind

    public int stretch(int half) throws IllegalArgumentException, IllegalStateException {
        requireArgument(isWithin(half, MIN_HALF, MAX_HALF));
        requireState(lift.chairsOnRope() == 0);
        int before = lift.half;
        lift.half = half;
        return before;
    }

    public int addChair(int seats) throws IllegalArgumentException, IllegalStateException {
        requireArgument(isWithin(seats, 1, MAX_SEATS));
        requireState(lift.chairCount < MAX_CHAIRS);
        return lift.makeChair(seats);
    }

    public int want(int many) throws IllegalArgumentException {
        requireArgument(isWithin(many, 0, MAX_CHAIRS));
        int before = lift.wanted;
        lift.wanted = many;
        return before;
    }

    public int addLane() throws IllegalStateException {
        requireState(lift.laneCount < MAX_LANES);
        return lift.makeLane();
    }

    public boolean shut(int lane, boolean isShut) throws IndexOutOfBoundsException {
        requireIndex(isLane(lane));
        boolean before = lift.lanes[lane].isShut;
        lift.lanes[lane].isShut = isShut;
        return before;
    }

    public int setWind(int at, int wind) throws IndexOutOfBoundsException, IllegalArgumentException {
        requireIndex(isBelow(at, WINDS));
        requireArgument(isWithin(wind, 0, MAX_WIND));
        int before = lift.winds[at];
        lift.winds[at] = wind;
        return before;
    }

    // ---- groups

    public int join(int lane, int size, int patience)
            throws IndexOutOfBoundsException, IllegalArgumentException, IllegalStateException {
        requireIndex(isLane(lane));
        requireArgument(isWithin(size, 1, MAX_SIZE) && isWithin(patience, 1, MAX_PATIENCE));
        requireState(!lift.lanes[lane].isShut && lift.groupCount < MAX_GROUPS);
        return lift.makeGroup(lane, size, patience);
    }

    public int change(int group, int lane) throws IndexOutOfBoundsException, IllegalStateException {
        requireIndex(isGroup(group) && isLane(lane));
        requireState(lift.groups[group].state == WAITS && !lift.lanes[lane].isShut);
        lift.takeOutOfQueue(group);
        lift.putIntoQueue(group, lane);
        return lift.lanes[lane].queue.size - 1;
    }

    public int leave(int group) throws IndexOutOfBoundsException, IllegalStateException {
        requireIndex(isGroup(group));
        requireState(lift.groups[group].state == WAITS);
        int before = lift.groups[group].lane;
        lift.sendAway(group);
        return before;
    }

    // ---- what is there

    public int group(int group, int what) throws IndexOutOfBoundsException {
        requireIndex(isGroup(group) && isBelow(what, GROUP_FACTS));
        return lift.groups[group].fact(what);
    }

    public int chair(int chair, int what) throws IndexOutOfBoundsException {
        requireIndex(isBelow(chair, lift.chairCount) && isBelow(what, CHAIR_FACTS));
        return lift.chairs[chair].fact(what);
    }

    public int lane(int lane, int what) throws IndexOutOfBoundsException {
        requireIndex(isLane(lane) && isBelow(what, LANE_FACTS));
        return lift.laneFact(lane, what);
    }

    public int queue(int lane, int index) throws IndexOutOfBoundsException {
        requireIndex(isLane(lane) && isBelow(index, lift.lanes[lane].queue.size));
        return lift.lanes[lane].queue.items[index];
    }

    public int shed(int index) throws IndexOutOfBoundsException {
        requireIndex(isBelow(index, lift.shed.size));
        return lift.shed.items[index];
    }

    // ---- steps

    public int pass(int steps) throws IllegalArgumentException {
        requireArgument(isWithin(steps, 1, MAX_STEPS_TO_PASS));
        return lift.goSteps(steps);
    }

    public int count(int what) throws IndexOutOfBoundsException {
        requireIndex(isBelow(what, COUNT_FACTS));
        return lift.fact(what);
    }

    // ---- looking ahead

    public int foresee(int steps, int what) throws IllegalArgumentException, IndexOutOfBoundsException {
        requireArgument(isWithin(steps, 1, MAX_STEPS_TO_FORESEE));
        requireIndex(isBelow(what, FORESEE_FACTS));
        trial.copyFrom(lift);
        int peopleUp = trial.goSteps(steps);
        switch (what) {
            case 0: return peopleUp;
            case 1: return trial.peopleWho(WAITS);
            default: return trial.coldness() - lift.coldness();
        }
    }

    public int when(int group) throws IndexOutOfBoundsException {
        requireIndex(isGroup(group));
        if (lift.groups[group].state == UP) {
            return 0;
        }
        trial.copyFrom(lift);
        return trial.stepsUntilUp(group, MAX_STEPS_OF_WHEN);
    }

    public int advise(int size) throws IllegalArgumentException {
        requireArgument(isWithin(size, 1, MAX_SIZE));
        int best = NONE;
        int limit = MAX_STEPS_OF_ADVICE;
        for (int lane = 0; lane < lift.laneCount; lane++) {
            if (lift.lanes[lane].isShut) {
                continue;
            }
            trial.copyFrom(lift);
            int group = trial.makeGroup(lane, size, MAX_PATIENCE);
            int steps = trial.stepsUntilUp(group, limit);
            if (steps != NONE) {
                best = lane;
                // Of several lanes the first one counts: a later one has to be quicker.
                limit = steps - 1;
            }
        }
        return best;
    }

    public int needs(int people, int steps) throws IllegalArgumentException {
        requireArgument(isWithin(people, 1, MAX_PEOPLE_OF_NEED) && isWithin(steps, 1, MAX_STEPS_OF_NEED));
        for (int many = 0; many <= lift.chairCount; many++) {
            trial.copyFrom(lift);
            trial.wanted = many;
            if (trial.goSteps(steps) >= people) {
                return many;
            }
        }
        return NONE;
    }

    public double mean() {
        return lift.loadings == 0 ? 0.0 : (double) lift.ridersTaken() / (double) lift.loadings;
    }

    public long digest() {
        long d = DIGEST_START;
        for (int what = 0; what < COUNT_FACTS; what++) {
            d = mixed(d, lift.fact(what));
        }
        for (int at = 0; at < WINDS; at++) {
            d = mixed(d, lift.winds[at]);
        }
        d = mixedWithGroups(d);
        d = mixedWithChairs(d);
        d = mixedWithLanes(d);
        return mixedWithRow(d, lift.shed);
    }

    // ---- helpers

    private static boolean isWithin(int number, int least, int most) {
        return number >= least && number <= most;
    }

    private static boolean isBelow(int index, int end) {
        return index >= 0 && index < end;
    }

    private boolean isLane(int lane) {
        return isBelow(lane, lift.laneCount);
    }

    private boolean isGroup(int group) {
        return isBelow(group, lift.groupCount);
    }

    private static void requireIndex(boolean isThere) {
        if (!isThere) {
            throw new IndexOutOfBoundsException("there is none with this number");
        }
    }

    private static void requireArgument(boolean isInRange) {
        if (!isInRange) {
            throw new IllegalArgumentException("the argument is out of its range");
        }
    }

    private static void requireState(boolean isReady) {
        if (!isReady) {
            throw new IllegalStateException("the lift does not allow this now");
        }
    }

    private static long mixed(long d, long x) {
        return d * DIGEST_FACTOR + x;
    }

    private static long mixedWithRow(long before, Row row) {
        long d = before;
        for (int index = 0; index < row.size; index++) {
            d = mixed(d, row.items[index]);
        }
        return d;
    }

    private long mixedWithGroups(long before) {
        long d = before;
        for (int group = 0; group < lift.groupCount; group++) {
            for (int what = 0; what < GROUP_FACTS; what++) {
                d = mixed(d, lift.groups[group].fact(what));
            }
        }
        return d;
    }

    private long mixedWithChairs(long before) {
        long d = before;
        for (int chair = 0; chair < lift.chairCount; chair++) {
            for (int what = 0; what < CHAIR_FACTS; what++) {
                d = mixed(d, lift.chairs[chair].fact(what));
            }
        }
        return d;
    }

    private long mixedWithLanes(long before) {
        long d = before;
        for (int lane = 0; lane < lift.laneCount; lane++) {
            for (int what = 0; what < LANE_FACTS; what++) {
                d = mixed(d, lift.laneFact(lane, what));
            }
            d = mixedWithRow(d, lift.lanes[lane].queue);
        }
        return d;
    }

    /** Numbers in a row: what stands behind one that goes moves up. */
    private static final class Row {
        final int[] items;
        int size;

        Row(int room) {
            items = new int[room > 0 ? room : 0];
        }

        int first() {
            return size > 0 ? items[0] : NONE;
        }

        void append(int item) {
            if (size < items.length) {
                items[size] = item;
                size++;
            }
        }

        void remove(int item) {
            int kept = 0;
            for (int index = 0; index < size; index++) {
                if (items[index] != item) {
                    items[kept] = items[index];
                    kept++;
                }
            }
            size = kept;
        }

        void copyFrom(Row other) {
            size = other.size < items.length ? other.size : items.length;
            System.arraycopy(other.items, 0, items, 0, size);
        }
    }

    private static final class Group {
        int size;
        int patience;
        int state;
        int lane;
        int chair;
        int joinedAt;
        int upAt;
        int colder;

        int fact(int what) {
            switch (what) {
                case 0: return size;
                case 1: return patience;
                case 2: return state;
                case 3: return lane;
                case 4: return chair;
                case 5: return joinedAt;
                case 6: return upAt;
                default: return colder;
            }
        }

        // Sets every field: on the trial lift an earlier group may have stood here.
        void start(int itsSize, int itsPatience, int step) {
            size = itsSize;
            patience = itsPatience;
            state = WAITS;
            lane = NONE;
            chair = NONE;
            joinedAt = step;
            upAt = NONE;
            colder = 0;
        }

        void copyFrom(Group other) {
            size = other.size;
            patience = other.patience;
            state = other.state;
            lane = other.lane;
            chair = other.chair;
            joinedAt = other.joinedAt;
            upAt = other.upAt;
            colder = other.colder;
        }
    }

    private static final class Chair {
        int seats;
        int place = NONE;
        int riders;
        int groups;
        int taken;

        int fact(int what) {
            switch (what) {
                case 0: return seats;
                case 1: return place;
                case 2: return riders;
                case 3: return groups;
                default: return taken;
            }
        }

        void copyFrom(Chair other) {
            seats = other.seats;
            place = other.place;
            riders = other.riders;
            groups = other.groups;
            taken = other.taken;
        }
    }

    private static final class Lane {
        final Row queue = new Row(ROOM_FOR_GROUPS);
        boolean isShut;
        int taken;

        void copyFrom(Lane other) {
            queue.copyFrom(other.queue);
            isShut = other.isShut;
            taken = other.taken;
        }
    }

    /**
     * All that changes, and how a step changes it. The face has looked at the arguments.
     * A number that is kept (in a queue, the shed, a group, the turn) is NONE or one that was
     * given to a group, chair or lane, so it is an index as soon as it is not NONE.
     */
    private static final class Lift {
        final int[] winds = new int[WINDS];
        final Chair[] chairs = new Chair[MAX_CHAIRS];
        final Lane[] lanes = new Lane[MAX_LANES];
        final Group[] groups = new Group[ROOM_FOR_GROUPS];
        final Row shed = new Row(MAX_CHAIRS);
        int chairCount;
        int laneCount;
        int groupCount;
        int half = HALF_AT_FIRST;
        int wanted;
        int turn;
        int step;
        int stood;
        int loadings;

        Lift() {
            for (int chair = 0; chair < MAX_CHAIRS; chair++) {
                chairs[chair] = new Chair();
            }
            for (int lane = 0; lane < MAX_LANES; lane++) {
                lanes[lane] = new Lane();
            }
            for (int group = 0; group < ROOM_FOR_GROUPS; group++) {
                groups[group] = new Group();
            }
        }

        void copyFrom(Lift other) {
            System.arraycopy(other.winds, 0, winds, 0, WINDS);
            chairCount = other.chairCount;
            for (int chair = 0; chair < chairCount; chair++) {
                chairs[chair].copyFrom(other.chairs[chair]);
            }
            laneCount = other.laneCount;
            for (int lane = 0; lane < laneCount; lane++) {
                lanes[lane].copyFrom(other.lanes[lane]);
            }
            groupCount = other.groupCount;
            for (int group = 0; group < groupCount; group++) {
                groups[group].copyFrom(other.groups[group]);
            }
            shed.copyFrom(other.shed);
            half = other.half;
            wanted = other.wanted;
            turn = other.turn;
            step = other.step;
            stood = other.stood;
            loadings = other.loadings;
        }

        int makeChair(int seats) {
            int number = chairCount;
            chairs[number].seats = seats;
            shed.append(number);
            chairCount++;
            return number;
        }

        int makeLane() {
            int number = laneCount;
            laneCount++;
            return number;
        }

        int makeGroup(int lane, int size, int patience) {
            int number = groupCount;
            groups[number].start(size, patience, step);
            putIntoQueue(number, lane);
            groupCount++;
            return number;
        }

        void putIntoQueue(int number, int lane) {
            groups[number].lane = lane;
            lanes[lane].queue.append(number);
        }

        void takeOutOfQueue(int number) {
            Group group = groups[number];
            if (group.lane != NONE) {
                lanes[group.lane].queue.remove(number);
            }
            group.lane = NONE;
        }

        void sendAway(int number) {
            takeOutOfQueue(number);
            groups[number].state = LEFT;
        }

        int goSteps(int steps) {
            int peopleUp = 0;
            for (int gone = 0; gone < steps; gone++) {
                peopleUp += goOneStep();
            }
            return peopleUp;
        }

        int stepsUntilUp(int number, int limit) {
            Group group = groups[number];
            for (int gone = 1; gone <= limit && group.state != LEFT; gone++) {
                goOneStep();
                if (group.state == UP) {
                    return gone;
                }
            }
            return NONE;
        }

        int goOneStep() {
            int peopleUp = 0;
            int wind = winds[Math.floorMod(step, WINDS)];
            if (ropeStands(wind)) {
                stood++;
                if (wind >= WIND_THAT_STOPS) {
                    coolRiders();
                }
            } else {
                moveRope();
                peopleUp = unloadAtTop();
                exchangeAtValley();
                loadAtValley();
            }
            sendImpatientAway();
            step++;
            return peopleUp;
        }

        boolean ropeStands(int wind) {
            boolean isOddStep = (step & 1) == 1;
            return wind >= WIND_THAT_STOPS || (wind >= WIND_THAT_SLOWS && isOddStep);
        }

        void coolRiders() {
            for (int number = 0; number < groupCount; number++) {
                if (groups[number].state == RIDES) {
                    groups[number].colder++;
                }
            }
        }

        void moveRope() {
            for (int number = 0; number < chairCount; number++) {
                Chair chair = chairs[number];
                if (chair.place != NONE) {
                    chair.place = chair.place + 1 < 2 * half ? chair.place + 1 : 0;
                }
            }
        }

        int unloadAtTop() {
            int top = chairAt(half);
            if (top == NONE) {
                return 0;
            }
            for (int number = 0; number < groupCount; number++) {
                if (groups[number].chair == top) {
                    groups[number].state = UP;
                    groups[number].chair = NONE;
                    groups[number].upAt = step;
                }
            }
            int peopleUp = chairs[top].riders;
            chairs[top].riders = 0;
            chairs[top].groups = 0;
            return peopleUp;
        }

        void exchangeAtValley() {
            int valley = chairAt(0);
            if (chairsOnRope() > wanted && valley != NONE) {
                chairs[valley].place = NONE;
                shed.append(valley);
            } else if (chairsOnRope() < wanted && valley == NONE && shed.size > 0) {
                int coming = shed.first();
                shed.remove(coming);
                chairs[coming].place = 0;
            }
        }

        void loadAtValley() {
            int valley = chairAt(0);
            if (valley == NONE) {
                return;
            }
            int boarded = 0;
            // Each group fills a seat at least, so no chair takes more groups than MAX_SEATS.
            while (boarded < MAX_SEATS) {
                int next = groupToBoard(chairs[valley].seats - chairs[valley].riders);
                if (next == NONE) {
                    break;
                }
                board(next, valley);
                boarded++;
            }
            if (boarded > 0) {
                loadings++;
            }
        }

        int groupToBoard(int seatsLeft) {
            int lane = turn;
            for (int looked = 0; looked < laneCount; looked++) {
                int first = lanes[lane].queue.first();
                if (first != NONE && groups[first].size <= seatsLeft) {
                    return first;
                }
                lane = laneBehind(lane);
            }
            return NONE;
        }

        void board(int number, int chair) {
            Group group = groups[number];
            lanes[group.lane].taken += group.size;
            turn = laneBehind(group.lane);
            takeOutOfQueue(number);
            group.state = RIDES;
            group.chair = chair;
            chairs[chair].riders += group.size;
            chairs[chair].groups++;
            chairs[chair].taken += group.size;
        }

        int laneBehind(int lane) {
            return lane + 1 < laneCount ? lane + 1 : 0;
        }

        void sendImpatientAway() {
            for (int number = 0; number < groupCount; number++) {
                Group group = groups[number];
                // The step that is going by counts as waited, also for who came in it.
                if (group.state == WAITS && step - group.joinedAt + 1 >= group.patience) {
                    sendAway(number);
                }
            }
        }

        int chairAt(int place) {
            for (int number = 0; number < chairCount; number++) {
                if (chairs[number].place == place) {
                    return number;
                }
            }
            return NONE;
        }

        int chairsOnRope() {
            return chairCount - shed.size;
        }

        int peopleWho(int state) {
            int people = 0;
            for (int number = 0; number < groupCount; number++) {
                if (groups[number].state == state) {
                    people += groups[number].size;
                }
            }
            return people;
        }

        int peopleInQueueOf(int lane) {
            int people = 0;
            for (int number = 0; number < groupCount; number++) {
                if (groups[number].lane == lane) {
                    people += groups[number].size;
                }
            }
            return people;
        }

        int coldness() {
            int sum = 0;
            for (int number = 0; number < groupCount; number++) {
                sum += groups[number].size * groups[number].colder;
            }
            return sum;
        }

        int ridersTaken() {
            int riders = 0;
            for (int number = 0; number < chairCount; number++) {
                riders += chairs[number].taken;
            }
            return riders;
        }

        int laneFact(int number, int what) {
            Lane lane = lanes[number];
            switch (what) {
                case 0: return lane.queue.size;
                case 1: return peopleInQueueOf(number);
                case 2: return lane.isShut ? 1 : 0;
                default: return lane.taken;
            }
        }

        int fact(int what) {
            switch (what) {
                case 0: return step;
                case 1: return chairCount;
                case 2: return chairsOnRope();
                case 3: return laneCount;
                case 4: return groupCount;
                case 5: return peopleWho(WAITS);
                case 6: return peopleWho(RIDES);
                case 7: return peopleWho(UP);
                case 8: return peopleWho(LEFT);
                case 9: return stood;
                case 10: return turn;
                case 11: return coldness();
                default: return half;
            }
        }
    }
}
