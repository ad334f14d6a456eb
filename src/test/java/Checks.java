import java.util.Objects;

/** What all tests share: counts wrong answers, builds keepers from texts, and tells all that can be seen of one. */
final class Checks {

    static final Class<IndexOutOfBoundsException> NO_INDEX = IndexOutOfBoundsException.class;
    static final Class<IllegalArgumentException> BAD_ARGUMENT = IllegalArgumentException.class;
    static final Class<IllegalStateException> BAD_STATE = IllegalStateException.class;

    private static int wrong = 0;
    private static int made = 0;

    private Checks() {
    }

    static void due(String call, Object got, Object want) {
        made++;
        if (!Objects.equals(got, want)) {
            wrong++;
            System.out.println(call + " answered " + got + ", due is " + want);
        }
    }

    interface Call {
        void run();
    }

    /** The call must throw exactly this class, and must leave all that can be seen of the keeper as it was. */
    static void refuses(DesiredStateKeeper keeper, String call, Class<?> want, Call body) {
        String before = sight(keeper);
        Class<?> got = null;
        try {
            body.run();
        } catch (RuntimeException e) {
            got = e.getClass();
        }
        due(call + " throws", got, want);
        due(call + " changes nothing", sight(keeper), before);
    }

    static DesiredStateKeeper keeper(String text) {
        DesiredStateKeeper keeper = new DesiredStateKeeper();
        write(keeper, text);
        keeper.load();
        return keeper;
    }

    static void write(DesiredStateKeeper keeper, String text) {
        keeper.clearText();
        for (int i = 0; i < text.length(); i++) {
            keeper.append(text.charAt(i));
        }
    }

    /** All that calls which change nothing tell of the state. */
    static String sight(DesiredStateKeeper k) {
        StringBuilder all = new StringBuilder();
        for (int what = 0; what <= 7; what++) {
            all.append(k.about(what)).append(' ');
        }
        for (int n = 0; n < k.about(0); n++) {
            all.append("\nnode");
            for (int what = 0; what <= 6; what++) {
                all.append(' ').append(k.node(n, what));
            }
            for (int c = 0; c < k.about(1); c++) {
                all.append(' ').append(k.version(n, c, false)).append('>').append(k.version(n, c, true));
            }
        }
        for (int c = 0; c < k.about(1); c++) {
            all.append("\ncomponent ").append(k.quorum(c));
            for (int v = 0; v <= 3; v++) {
                all.append(' ').append(k.approvals(c, v));
            }
        }
        for (int r = 0; r < k.about(2); r++) {
            all.append("\nrule");
            for (int what = 0; what <= 4; what++) {
                all.append(' ').append(k.rule(r, what));
            }
        }
        return all.append("\ntext ").append(k.errorPosition()).toString();
    }

    static void end(String test) {
        System.out.println(test + ": " + made + " checks, " + wrong + " wrong");
        if (wrong != 0 || made == 0) {
            System.exit(1);
        }
    }
}
