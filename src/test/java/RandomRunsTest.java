import java.util.Random;

/** All promises: runs of up to 512 calls, drawn with fixed seeds, answered by ChairLift as by Model. */
public final class RandomRunsTest {
    private static final Checks CHECKS = new Checks();
    private static final int RUNS = 400;
    private static final int CALLS = 512;
    private static final int[] ODD_NUMBERS = {Integer.MIN_VALUE, -2, -1, 0, 1, 2, 3, 4, 5, 6, 7, 8, 9, 10, 12, 13, 14,
        19, 20, 21, 23, 24, 89, 90, 91, 100, 101, 149, 150, 151, 199, 200, 201, 250, 500, 501, Integer.MAX_VALUE};
    private static final String[] ALL = {"stretch", "addChair", "want", "addLane", "shut", "setWind", "join", "change",
        "leave", "group", "chair", "lane", "queue", "shed", "pass", "count", "foresee", "when", "advise", "needs",
        "mean", "digest"};

    public static void main(String[] args) {
        for (int seed = 0; seed < RUNS; seed++) {
            run(seed);
        }
        CHECKS.end();
    }

    private static void run(int seed) {
        Random random = new Random(seed);
        ChairLift lift = new ChairLift();
        Model model = new Model();
        int groups = 0;
        int storm = random.nextInt(11);
        int longest = random.nextInt(4) == 0 ? 200 : 1 + random.nextInt(12);
        for (int call = 0; call < CALLS; call++) {
            String name = draw(random, call);
            int[] a = arguments(name, random, groups, storm, longest);
            String text = "seed " + seed + ", call " + call + ", " + name + " " + Checks.row(a[0], a[1], a[2]);
            String due = outcomeOfModel(model, name, a);
            CHECKS.same(text, outcome(lift, name, a), due);
            CHECKS.same(text + ", digest", lift.digest(), (Long) model.answer("digest", 0, 0, 0));
            groups = lift.count(4);
        }
    }

    /** At first the lift is built, then it is used. */
    private static String draw(Random random, int call) {
        int lot = random.nextInt(100);
        if (lot < 12) {
            return ALL[random.nextInt(ALL.length)];
        }
        if (call < 25) {
            return new String[] {"stretch", "addChair", "addChair", "want", "addLane", "setWind"}[lot % 6];
        }
        if (lot < 45) {
            return "join";
        }
        return lot < 70 ? "pass" : new String[] {"change", "leave", "want", "shut", "setWind", "when", "foresee",
            "advise", "needs", "change", "when", "want"}[lot % 12];
    }

    private static int[] arguments(String name, Random random, int groups, int storm, int longest) {
        int[] a = {random.nextInt(4), random.nextInt(8), random.nextInt(8)};
        switch (name) {
            case "stretch": a[0] = 2 + random.nextInt(11); break;
            case "addChair": a[0] = 1 + random.nextInt(6); break;
            case "want": a[0] = random.nextInt(21); break;
            case "shut": a[1] = random.nextInt(3) == 0 ? 1 : 0; break;
            case "setWind":
                a[0] = random.nextInt(24);
                a[1] = random.nextInt(10) < storm ? random.nextInt(10) : 0;
                break;
            case "join": a[1] = 1 + random.nextInt(6); a[2] = 1 + random.nextInt(longest == 200 ? 200 : 40); break;
            case "change": case "leave": case "group": case "when": a[0] = random.nextInt(groups + 1); break;
            case "chair": a[0] = random.nextInt(20); a[1] = random.nextInt(5); break;
            case "pass": a[0] = 1 + random.nextInt(longest); break;
            case "count": a[0] = random.nextInt(13); break;
            case "foresee": a[0] = 1 + random.nextInt(150); a[1] = random.nextInt(3); break;
            case "advise": a[0] = 1 + random.nextInt(6); break;
            case "needs": a[0] = 1 + random.nextInt(40); a[1] = 1 + random.nextInt(100); break;
            default: break;
        }
        if (name.equals("change")) {
            a[1] = random.nextInt(4);
        }
        if (random.nextInt(12) == 0) {
            a[random.nextInt(3)] = ODD_NUMBERS[random.nextInt(ODD_NUMBERS.length)];
        }
        return a;
    }

    private static String outcomeOfModel(Model model, String name, int[] a) {
        try {
            return String.valueOf(model.answer(name, a[0], a[1], a[2]));
        } catch (RuntimeException e) {
            return e.getClass().getName();
        }
    }

    private static String outcome(ChairLift lift, String name, int[] a) {
        try {
            return String.valueOf(answer(lift, name, a[0], a[1], a[2]));
        } catch (RuntimeException e) {
            return e.getClass().getName();
        }
    }

    private static Object answer(ChairLift lift, String name, int a, int b, int c) {
        switch (name) {
            case "stretch": return lift.stretch(a);
            case "addChair": return lift.addChair(a);
            case "want": return lift.want(a);
            case "addLane": return lift.addLane();
            case "shut": return lift.shut(a, b % 2 != 0);
            case "setWind": return lift.setWind(a, b);
            case "join": return lift.join(a, b, c);
            case "change": return lift.change(a, b);
            case "leave": return lift.leave(a);
            case "group": return lift.group(a, b);
            case "chair": return lift.chair(a, b);
            case "lane": return lift.lane(a, b);
            case "queue": return lift.queue(a, b);
            case "shed": return lift.shed(a);
            case "pass": return lift.pass(a);
            case "count": return lift.count(a);
            case "foresee": return lift.foresee(a, b);
            case "when": return lift.when(a);
            case "advise": return lift.advise(a);
            case "needs": return lift.needs(a, b);
            case "mean": return lift.mean();
            default: return lift.digest();
        }
    }
}
