import java.util.EnumMap;
import java.util.Map;

/**
 * Looks at all of a keeper that a call could have changed: the state, the rules, the text, both slots and the
 * remembered states. Slots and remembered states can only be seen by restoring them, so each look is at a keeper made
 * anew.
 */
final class Unchanged {

    interface Body {
        void run(DesiredStateKeeper k);
    }

    private enum Look {
        STATE {
            @Override
            String at(DesiredStateKeeper k) {
                return Checks.sight(k);
            }
        },
        ANSWERS {
            @Override
            String at(DesiredStateKeeper k) {
                return answers(k);
            }
        },
        TEXT {
            @Override
            String at(DesiredStateKeeper k) {
                return k.errorPosition() + " " + answer(() -> k.append('v')) + " " + k.errorPosition() + " "
                        + k.clearText() + " " + k.append('D') + " " + k.errorPosition();
            }
        },
        SLOT_0 {
            @Override
            String at(DesiredStateKeeper k) {
                return answer(() -> k.restore(0)) + " " + Checks.sight(k);
            }
        },
        SLOT_1 {
            @Override
            String at(DesiredStateKeeper k) {
                return answer(() -> k.restore(1)) + " " + Checks.sight(k);
            }
        },
        LAST_REMEMBERED {
            @Override
            String at(DesiredStateKeeper k) {
                return undone(k, 1);
            }
        },
        LAST_BUT_ONE_REMEMBERED {
            @Override
            String at(DesiredStateKeeper k) {
                return undone(k, 2);
            }
        },
        OLDEST_REMEMBERED {
            @Override
            String at(DesiredStateKeeper k) {
                return undone(k, 15);
            }
        };

        abstract String at(DesiredStateKeeper k);
    }

    private interface Answer {
        int ask();
    }

    private static final Map<Recipes, Map<Look, String>> SEEN = new EnumMap<>(Recipes.class);

    private Unchanged() {
    }

    /** The call throws this, and leaves everything as it was, on a keeper of each size. */
    static void refused(String call, Class<?> want, Body body) {
        for (Recipes recipe : Recipes.values()) {
            refused(recipe, call, want, body);
        }
    }

    static void refused(Recipes recipe, String call, Class<?> want, Body body) {
        DesiredStateKeeper k = recipe.make();
        Checks.due(recipe + ": " + call + " throws", Checks.thrown(() -> body.run(k)), want);
        asBefore(recipe, call, body);
    }

    /** The call answers and leaves everything as it was. */
    static void quiet(Recipes recipe, String call, Body body) {
        refused(recipe, call, null, body);
    }

    private static void asBefore(Recipes recipe, String call, Body body) {
        for (Look look : Look.values()) {
            DesiredStateKeeper k = recipe.make();
            Checks.thrown(() -> body.run(k));
            Checks.due(recipe + ": after " + call + " the look at " + look, look.at(k), seen(recipe, look));
        }
    }

    private static String seen(Recipes recipe, Look look) {
        return SEEN.computeIfAbsent(recipe, r -> new EnumMap<>(Look.class))
                .computeIfAbsent(look, l -> l.at(recipe.make()));
    }

    private static String answer(Answer call) {
        try {
            return Integer.toString(call.ask());
        } catch (RuntimeException e) {
            return e.getClass().getName();
        }
    }

    private static String undone(DesiredStateKeeper k, int times) {
        StringBuilder all = new StringBuilder();
        for (int i = 0; i < times; i++) {
            all.append(answer(k::undo)).append(' ');
        }
        return all.append(Checks.sight(k)).toString();
    }

    /** What the calls tell that look for ways and reasons; at most 120 calls. */
    private static String answers(DesiredStateKeeper k) {
        StringBuilder all = new StringBuilder();
        int nodes = k.about(0);
        int components = k.about(1);
        int rules = k.about(2);
        for (int n = 0; n < nodes; n++) {
            all.append("\nnode ").append(k.next(n)).append(' ').append(k.fewest(n)).append(' ').append(k.step(n, 0))
                    .append(' ').append(k.explains(n, 6)).append(' ').append(k.ranked(n)).append(' ')
                    .append(k.ahead(99, n, 6)).append(' ').append(k.breaks(n, 0, 3));
            for (int c = 0; c < components; c++) {
                all.append(' ').append(k.state(n, c));
            }
        }
        for (int c = 0; c < components; c++) {
            all.append("\ncomponent ").append(k.missing(c)).append(' ').append(k.needed(c, 3, 0)).append(' ')
                    .append(k.isPossible(c, 3));
        }
        for (int r = 0; r < rules; r++) {
            all.append("\nrule ").append(k.holdsUp(r));
        }
        return all.append('\n').append(k.calmAfter()).append(' ').append(k.simulate(5, 60)).append(' ')
                .append(k.runScript(3, 4009_8003_6000L)).toString();
    }
}
