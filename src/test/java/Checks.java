/** Counts the answers that are not due; at the end the program stops with 1 if there was one. */
final class Checks {
    interface Call {
        void on(ChairLift lift);
    }

    private int made;
    private int wrong;

    void same(String what, long got, long due) {
        made++;
        if (got != due) {
            report(what + " is " + got + ", due is " + due);
        }
    }

    void same(String what, double got, double due) {
        made++;
        if (Double.compare(got, due) != 0) {
            report(what + " is " + got + ", due is " + due);
        }
    }

    void same(String what, String got, String due) {
        made++;
        if (!got.equals(due)) {
            report(what + " is " + got + ", due is " + due);
        }
    }

    void isTrue(String what, boolean got) {
        made++;
        if (!got) {
            report(what + " does not hold");
        }
    }

    void refusesIndex(String what, ChairLift lift, Call call) {
        refuses(what, IndexOutOfBoundsException.class, lift, call);
    }

    void refusesArgument(String what, ChairLift lift, Call call) {
        refuses(what, IllegalArgumentException.class, lift, call);
    }

    void refusesState(String what, ChairLift lift, Call call) {
        refuses(what, IllegalStateException.class, lift, call);
    }

    void takes(String what, ChairLift lift, Call call) {
        made++;
        try {
            call.on(lift);
        } catch (RuntimeException e) {
            report(what + " throws " + e.getClass());
        }
    }

    /** The call throws exactly this exception, and nothing that can be asked for has changed. */
    void refuses(String what, Class<?> due, ChairLift lift, Call call) {
        String before = allOf(lift);
        Class<?> got = null;
        try {
            call.on(lift);
        } catch (RuntimeException e) {
            got = e.getClass();
        }
        made++;
        if (got != due) {
            report(what + " throws " + got + ", due is " + due);
        }
        same("what there is after " + what, allOf(lift), before);
    }

    /** digest() tells neither what is wanted nor what mean() is made of. */
    static String allOf(ChairLift lift) {
        int wanted = lift.want(0);
        lift.want(wanted);
        return lift.digest() + " " + wanted + " " + lift.mean();
    }

    /** What counts in a row, so that many answers stand in one line. */
    static String row(long... numbers) {
        StringBuilder text = new StringBuilder();
        for (long number : numbers) {
            text.append(text.length() == 0 ? "" : " ").append(number);
        }
        return text.toString();
    }

    static String group(ChairLift lift, int group) {
        long[] facts = new long[8];
        for (int what = 0; what < 8; what++) {
            facts[what] = lift.group(group, what);
        }
        return row(facts);
    }

    static String chair(ChairLift lift, int chair) {
        long[] facts = new long[5];
        for (int what = 0; what < 5; what++) {
            facts[what] = lift.chair(chair, what);
        }
        return row(facts);
    }

    static String lane(ChairLift lift, int lane) {
        long[] facts = new long[4];
        for (int what = 0; what < 4; what++) {
            facts[what] = lift.lane(lane, what);
        }
        return row(facts);
    }

    static String queue(ChairLift lift, int lane) {
        long[] groups = new long[lift.lane(lane, 0)];
        for (int index = 0; index < groups.length; index++) {
            groups[index] = lift.queue(lane, index);
        }
        return row(groups);
    }

    static String shed(ChairLift lift) {
        long[] chairs = new long[lift.count(1) - lift.count(2)];
        for (int index = 0; index < chairs.length; index++) {
            chairs[index] = lift.shed(index);
        }
        return row(chairs);
    }

    static String counts(ChairLift lift) {
        long[] counts = new long[13];
        for (int what = 0; what < 13; what++) {
            counts[what] = lift.count(what);
        }
        return row(counts);
    }

    /** The digest, computed from what the other calls tell. */
    static long digestOf(ChairLift lift) {
        long d = 677;
        for (int what = 0; what <= 12; what++) {
            d = d * 31 + lift.count(what);
        }
        for (int at = 0; at < 24; at++) {
            int wind = lift.setWind(at, 0);
            lift.setWind(at, wind);
            d = d * 31 + wind;
        }
        StringBuilder rest = new StringBuilder();
        for (int group = 0; group < lift.count(4); group++) {
            rest.append(group(lift, group)).append(' ');
        }
        for (int chair = 0; chair < lift.count(1); chair++) {
            rest.append(chair(lift, chair)).append(' ');
        }
        for (int lane = 0; lane < lift.count(3); lane++) {
            rest.append(lane(lift, lane)).append(' ').append(queue(lift, lane)).append(' ');
        }
        rest.append(shed(lift));
        for (String number : rest.toString().trim().split(" +")) {
            d = number.isEmpty() ? d : d * 31 + Long.parseLong(number);
        }
        return d;
    }

    void report(String text) {
        wrong++;
        if (wrong <= 40) {
            System.out.println(text);
        }
    }

    void end() {
        System.out.println(made + " answers looked at, " + wrong + " not as due");
        if (wrong != 0 || made == 0) {
            System.exit(1);
        }
    }
}
