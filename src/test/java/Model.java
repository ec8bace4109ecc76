import java.util.ArrayList;
import java.util.List;

/**
 * The document once more, in another style, to be compared with: lists, copies, a rope that is a list of places,
 * groups that count the steps they have waited.
 */
final class Model {
    static final class Party {
        int size;
        int patience;
        String state = "waits";
        int cameAt;
        int upAt = -1;
        int cold;
        int waited;
    }

    static final class Seat {
        int seats;
        List<Party> on = new ArrayList<>();
        int taken;
    }

    static final class Line {
        List<Party> row = new ArrayList<>();
        boolean closed;
        int taken;
    }

    private List<Seat> rope = new ArrayList<>();
    private List<Seat> chairs = new ArrayList<>();
    private List<Seat> shed = new ArrayList<>();
    private List<Line> lanes = new ArrayList<>();
    private List<Party> groups = new ArrayList<>();
    private final int[] winds = new int[24];
    private int wanted;
    private int turn;
    private int time;
    private int stood;
    private int takenInAll;
    private int stepsWithTakers;

    Model() {
        setRope(6);
    }

    private void setRope(int half) {
        rope.clear();
        while (rope.size() < 2 * half) {
            rope.add(null);
        }
    }

    private Model copy() {
        Model c = new Model();
        for (Party g : groups) {
            Party n = new Party();
            n.size = g.size;
            n.patience = g.patience;
            n.state = g.state;
            n.cameAt = g.cameAt;
            n.upAt = g.upAt;
            n.cold = g.cold;
            n.waited = g.waited;
            c.groups.add(n);
        }
        for (Seat s : chairs) {
            Seat n = new Seat();
            n.seats = s.seats;
            n.taken = s.taken;
            for (Party g : s.on) {
                n.on.add(c.groups.get(groups.indexOf(g)));
            }
            c.chairs.add(n);
        }
        c.rope.clear();
        for (Seat s : rope) {
            c.rope.add(s == null ? null : c.chairs.get(chairs.indexOf(s)));
        }
        for (Seat s : shed) {
            c.shed.add(c.chairs.get(chairs.indexOf(s)));
        }
        for (Line l : lanes) {
            Line n = new Line();
            n.closed = l.closed;
            n.taken = l.taken;
            for (Party g : l.row) {
                n.row.add(c.groups.get(groups.indexOf(g)));
            }
            c.lanes.add(n);
        }
        System.arraycopy(winds, 0, c.winds, 0, 24);
        c.wanted = wanted;
        c.turn = turn;
        c.time = time;
        c.stood = stood;
        c.takenInAll = takenInAll;
        c.stepsWithTakers = stepsWithTakers;
        return c;
    }

    private static void index(boolean good) {
        if (!good) {
            throw new IndexOutOfBoundsException();
        }
    }

    private static void argument(boolean good) {
        if (!good) {
            throw new IllegalArgumentException();
        }
    }

    private static void state(boolean good) {
        if (!good) {
            throw new IllegalStateException();
        }
    }

    private static <T> void isIn(List<T> list, int number) {
        index(number >= 0 && number < list.size());
    }

    /** Answers a call by its name; what throws, throws. */
    Object answer(String name, int a, int b, int c) {
        switch (name) {
            case "stretch": return stretch(a);
            case "addChair": return addChair(a);
            case "want": return want(a);
            case "addLane": return addLane();
            case "shut": return shut(a, b % 2 != 0);
            case "setWind": return setWind(a, b);
            case "join": return join(a, b, c);
            case "change": return change(a, b);
            case "leave": return leave(a);
            case "group": return group(a, b);
            case "chair": return chair(a, b);
            case "lane": return lane(a, b);
            case "queue": return queue(a, b);
            case "shed": return shed(a);
            case "pass": return pass(a);
            case "count": return count(a);
            case "foresee": return foresee(a, b);
            case "when": return when(a);
            case "advise": return advise(a);
            case "needs": return needs(a, b);
            case "mean": return takenInAll == 0 ? 0.0 : 1.0 * takenInAll / stepsWithTakers;
            default: return digest();
        }
    }

    private int stretch(int half) {
        argument(half >= 2 && half <= 12);
        state(shed.size() == chairs.size());
        int before = rope.size() / 2;
        setRope(half);
        return before;
    }

    private int addChair(int seats) {
        argument(seats >= 1 && seats <= 6);
        state(chairs.size() < 20);
        Seat s = new Seat();
        s.seats = seats;
        chairs.add(s);
        shed.add(s);
        return chairs.size() - 1;
    }

    private int want(int many) {
        argument(many >= 0 && many <= 20);
        int before = wanted;
        wanted = many;
        return before;
    }

    private int addLane() {
        state(lanes.size() < 4);
        lanes.add(new Line());
        return lanes.size() - 1;
    }

    private boolean shut(int lane, boolean closed) {
        isIn(lanes, lane);
        boolean before = lanes.get(lane).closed;
        lanes.get(lane).closed = closed;
        return before;
    }

    private int setWind(int at, int wind) {
        index(at >= 0 && at <= 23);
        argument(wind >= 0 && wind <= 9);
        int before = winds[at];
        winds[at] = wind;
        return before;
    }

    private int join(int lane, int size, int patience) {
        isIn(lanes, lane);
        argument(size >= 1 && size <= 6 && patience >= 1 && patience <= 200);
        state(!lanes.get(lane).closed && groups.size() < 90);
        return enter(lane, size, patience);
    }

    private int enter(int lane, int size, int patience) {
        Party g = new Party();
        g.size = size;
        g.patience = patience;
        g.cameAt = time;
        groups.add(g);
        lanes.get(lane).row.add(g);
        return groups.size() - 1;
    }

    private int laneOf(Party g) {
        for (int lane = 0; lane < lanes.size(); lane++) {
            if (lanes.get(lane).row.contains(g)) {
                return lane;
            }
        }
        return -1;
    }

    private int chairOf(Party g) {
        for (int chair = 0; chair < chairs.size(); chair++) {
            if (chairs.get(chair).on.contains(g)) {
                return chair;
            }
        }
        return -1;
    }

    private int change(int group, int lane) {
        isIn(groups, group);
        isIn(lanes, lane);
        Party g = groups.get(group);
        state(laneOf(g) >= 0 && !lanes.get(lane).closed);
        lanes.get(laneOf(g)).row.remove(g);
        int ahead = lanes.get(lane).row.size();
        lanes.get(lane).row.add(g);
        return ahead;
    }

    private int leave(int group) {
        isIn(groups, group);
        Party g = groups.get(group);
        int lane = laneOf(g);
        state(lane >= 0);
        lanes.get(lane).row.remove(g);
        g.state = "left";
        return lane;
    }

    private int group(int group, int what) {
        isIn(groups, group);
        index(what >= 0 && what <= 7);
        Party g = groups.get(group);
        int[] facts = {g.size, g.patience, List.of("waits", "rides", "up", "left").indexOf(g.state), laneOf(g),
            chairOf(g), g.cameAt, g.upAt, g.cold};
        return facts[what];
    }

    private static int people(List<Party> of) {
        int people = 0;
        for (Party g : of) {
            people += g.size;
        }
        return people;
    }

    private int chair(int chair, int what) {
        isIn(chairs, chair);
        index(what >= 0 && what <= 4);
        Seat s = chairs.get(chair);
        int[] facts = {s.seats, rope.indexOf(s), people(s.on), s.on.size(), s.taken};
        return facts[what];
    }

    private int lane(int lane, int what) {
        isIn(lanes, lane);
        index(what >= 0 && what <= 3);
        Line l = lanes.get(lane);
        int[] facts = {l.row.size(), people(l.row), l.closed ? 1 : 0, l.taken};
        return facts[what];
    }

    private int queue(int lane, int at) {
        isIn(lanes, lane);
        isIn(lanes.get(lane).row, at);
        return groups.indexOf(lanes.get(lane).row.get(at));
    }

    private int shed(int at) {
        isIn(shed, at);
        return chairs.indexOf(shed.get(at));
    }

    private int pass(int steps) {
        argument(steps >= 1 && steps <= 200);
        int before = count(7);
        for (int step = 0; step < steps; step++) {
            step();
        }
        return count(7) - before;
    }

    private int inState(String state) {
        int people = 0;
        for (Party g : groups) {
            people += g.state.equals(state) ? g.size : 0;
        }
        return people;
    }

    private int count(int what) {
        index(what >= 0 && what <= 12);
        int cold = 0;
        for (Party g : groups) {
            cold += g.cold * g.size;
        }
        int[] facts = {time, chairs.size(), chairs.size() - shed.size(), lanes.size(), groups.size(),
            inState("waits"), inState("rides"), inState("up"), inState("left"), stood, turn, cold, rope.size() / 2};
        return facts[what];
    }

    private void step() {
        int wind = winds[time % 24];
        if (wind >= 8) {
            stood++;
            for (Seat s : chairs) {
                for (Party g : s.on) {
                    g.cold++;
                }
            }
        } else if (wind >= 5 && time % 2 == 1) {
            stood++;
        } else {
            rope.add(0, rope.remove(rope.size() - 1));
            top();
            valley();
        }
        for (Party g : groups) {
            if (g.state.equals("waits")) {
                g.waited++;
                if (g.waited == g.patience) {
                    leave(groups.indexOf(g));
                }
            }
        }
        time++;
    }

    private void top() {
        Seat s = rope.get(rope.size() / 2);
        if (s != null) {
            for (Party g : s.on) {
                g.state = "up";
                g.upAt = time;
            }
            s.on.clear();
        }
    }

    private void valley() {
        int onRope = chairs.size() - shed.size();
        if (onRope > wanted && rope.get(0) != null) {
            shed.add(rope.set(0, null));
        } else if (onRope < wanted && rope.get(0) == null && !shed.isEmpty()) {
            rope.set(0, shed.remove(0));
        }
        if (rope.get(0) != null) {
            load(rope.get(0));
        }
    }

    private void load(Seat s) {
        int before = s.taken;
        boolean found = true;
        while (found) {
            found = false;
            for (int round = 0; round < lanes.size() && !found; round++) {
                int lane = (turn + round) % lanes.size();
                Line l = lanes.get(lane);
                if (!l.row.isEmpty() && l.row.get(0).size <= s.seats - people(s.on)) {
                    Party g = l.row.remove(0);
                    g.state = "rides";
                    s.on.add(g);
                    s.taken += g.size;
                    l.taken += g.size;
                    takenInAll += g.size;
                    turn = (lane + 1) % lanes.size();
                    found = true;
                }
            }
        }
        if (s.taken > before) {
            stepsWithTakers++;
        }
    }

    private int foresee(int steps, int what) {
        argument(steps >= 1 && steps <= 150);
        index(what >= 0 && what <= 2);
        Model c = copy();
        int[] facts = {c.pass(steps), c.count(5), c.count(11) - count(11)};
        return facts[what];
    }

    private int when(int group) {
        isIn(groups, group);
        return upBehind(group, 250);
    }

    private int upBehind(int group, int limit) {
        Model c = copy();
        for (int steps = 0; steps <= limit; steps++) {
            if (c.groups.get(group).state.equals("up")) {
                return steps;
            }
            c.step();
        }
        return -1;
    }

    private int advise(int size) {
        argument(size >= 1 && size <= 6);
        int best = -1;
        int least = Integer.MAX_VALUE;
        for (int lane = lanes.size() - 1; lane >= 0; lane--) {
            if (!lanes.get(lane).closed) {
                Model c = copy();
                int steps = c.upBehind(c.enter(lane, size, 200), 200);
                if (steps >= 0 && steps <= least) {
                    least = steps;
                    best = lane;
                }
            }
        }
        return best;
    }

    private int needs(int people, int steps) {
        argument(people >= 1 && people <= 500 && steps >= 1 && steps <= 100);
        for (int many = 0; many <= chairs.size(); many++) {
            Model c = copy();
            c.want(many);
            if (c.pass(steps) >= people) {
                return many;
            }
        }
        return -1;
    }

    private long digest() {
        List<Integer> told = new ArrayList<>();
        for (int what = 0; what < 13; what++) {
            told.add(count(what));
        }
        for (int wind : winds) {
            told.add(wind);
        }
        for (int group = 0; group < groups.size(); group++) {
            for (int what = 0; what < 8; what++) {
                told.add(group(group, what));
            }
        }
        for (int chair = 0; chair < chairs.size(); chair++) {
            for (int what = 0; what < 5; what++) {
                told.add(chair(chair, what));
            }
        }
        for (int lane = 0; lane < lanes.size(); lane++) {
            for (int what = 0; what < 4; what++) {
                told.add(lane(lane, what));
            }
            for (Party g : lanes.get(lane).row) {
                told.add(groups.indexOf(g));
            }
        }
        for (Seat s : shed) {
            told.add(chairs.indexOf(s));
        }
        long d = 677;
        for (int x : told) {
            d = d * 31 + x;
        }
        return d;
    }
}
