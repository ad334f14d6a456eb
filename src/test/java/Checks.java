import java.util.Objects;

/** What all tests share: counts wrong answers, builds keepers from texts, and tells all that can be seen of one. */
final class Checks {

    static final Class<IndexOutOfBoundsException> NO_INDEX = IndexOutOfBoundsException.class;
    static final Class<IllegalArgumentException> BAD_ARGUMENT = IllegalArgumentException.class;
    static final Class<IllegalStateException> BAD_STATE = IllegalStateException.class;

    private static final int MINUTES_FOR_A_TEST = Integer.getInteger("minutes", 5);

    private static int wrong = 0;
    private static int made = 0;
    private static volatile String topic = "";

    static {
        failIfACallDoesNotEnd();
    }

    private Checks() {
    }

    private static void failIfACallDoesNotEnd() {
        Thread watch = new Thread(() -> {
            try {
                Thread.sleep(MINUTES_FOR_A_TEST * 60_000L);
            } catch (InterruptedException e) {
                return;
            }
            System.out.println(topic + "a call does not end");
            Runtime.getRuntime().halt(1);
        });
        watch.setDaemon(true);
        watch.start();
    }

    /** What the checks from now on are about; it is told with each wrong answer. */
    static void topic(String now) {
        topic = now + ": ";
    }

    static int made() {
        return made;
    }

    static void due(String call, Object got, Object want) {
        made++;
        if (!Objects.equals(got, want)) {
            wrong++;
            System.out.println(topic + call + " answered " + got + ", due is " + want);
        }
    }

    interface Call {
        void run();
    }

    /** The call must throw exactly this class. That it changes nothing is looked at by {@link Unchanged}. */
    static void refuses(String call, Class<?> want, Call body) {
        due(call + " throws", thrown(body), want);
    }

    /** The class of what the call throws; null if it throws nothing. */
    static Class<?> thrown(Call body) {
        try {
            body.run();
        } catch (RuntimeException e) {
            return e.getClass();
        }
        return null;
    }

    static DesiredStateKeeper keeper(String text) {
        DesiredStateKeeper keeper = new DesiredStateKeeper();
        write(keeper, text);
        keeper.load();
        return keeper;
    }

    static void write(DesiredStateKeeper keeper, String text) {
        keeper.clearText();
        for (int i = 0; i < text.length(); i++) {
            keeper.append(text.charAt(i));
        }
    }

    /** All that calls which change nothing tell of the state and the rules; at most 183 calls. */
    static String sight(DesiredStateKeeper k) {
        StringBuilder all = new StringBuilder();
        int[] about = new int[8];
        for (int what = 0; what <= 7; what++) {
            about[what] = k.about(what);
            all.append(about[what]).append(' ');
        }
        for (int n = 0; n < about[0]; n++) {
            all.append("\nnode");
            for (int what = 0; what <= 6; what++) {
                all.append(' ').append(k.node(n, what));
            }
            for (int c = 0; c < about[1]; c++) {
                all.append(' ').append(k.version(n, c, false)).append('>').append(k.version(n, c, true));
            }
        }
        for (int c = 0; c < about[1]; c++) {
            all.append("\ncomponent ").append(k.quorum(c));
            for (int v = 0; v <= 3; v++) {
                all.append(' ').append(k.approvals(c, v));
            }
        }
        for (int r = 0; r < about[2]; r++) {
            all.append("\nrule");
            for (int what = 0; what <= 4; what++) {
                all.append(' ').append(k.rule(r, what));
            }
        }
        return all.toString();
    }

    static void end(String test) {
        System.out.println(test + ": " + made + " checks, " + wrong + " wrong");
        if (wrong != 0 || made == 0) {
            System.exit(1);
        }
    }
}
