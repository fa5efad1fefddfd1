import java.util.Objects;

/** Counts and prints what is not as due. */
final class Checks {
    interface Call {
        Object run();
    }

    interface Action {
        void run();
    }

    private int wrong = 0;

    void same(String what, Object due, Call call) {
        Object got = answerOf(call);
        if (!Objects.equals(due, got)) {
            wrong++;
            System.out.println(what + " answered " + got + ", due is " + due);
        }
    }

    void throwing(String what, Class<? extends RuntimeException> due, Call call) {
        same(what, due, call);
    }

    void end() {
        System.out.println(wrong == 0 ? "all is as due" : wrong + " answers are not as due");
        if (wrong != 0) {
            System.exit(1);
        }
    }

    /** What a call answers, or the class of what it throws. */
    static Object answerOf(Call call) {
        try {
            return call.run();
        } catch (RuntimeException e) {
            return e.getClass();
        }
    }

    /** The whole disk as a text: two disks are alike if their texts are. */
    static String diskOf(ClusterVolume v) {
        StringBuilder text = new StringBuilder();
        for (int cluster = 0; cluster < 32; cluster++) {
            text.append(clusterOf(v, cluster)).append(" then ").append(v.table(cluster)).append('\n');
        }
        return text.toString();
    }

    static String clusterOf(ClusterVolume v, int cluster) {
        return v.cell(cluster, 0) + " " + v.cell(cluster, 1) + " " + v.cell(cluster, 2) + " "
                + v.cell(cluster, 3);
    }
}
