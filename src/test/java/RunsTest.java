import java.util.ArrayList;
import java.util.Arrays;
import java.util.LinkedHashMap;
import java.util.List;
import java.util.Map;
import java.util.function.BiConsumer;
import java.util.function.Function;

/** All promises in runs: a change works on what is there, and an answer is of what is there. */
public final class RunsTest {
    private static final Map<String, BiConsumer<MatrixTraits, Model>> CHANGES = changes();
    private static final Map<String, Function<MatrixTraits, Object>> ASKS = TermsTest.callsBelow();

    public static void main(String[] args) {
        List<String> names = new ArrayList<>(CHANGES.keySet());
        for (String first : names) {
            for (String second : names) {
                for (String third : names) {
                    changesFollowOneAnother(first, second, third);
                }
                answersFollowTheChanges(first, second);
            }
        }
        Check.end();
    }

    /** Each kind of change, and each way to refuse one. */
    private static Map<String, BiConsumer<MatrixTraits, Model>> changes() {
        Map<String, BiConsumer<MatrixTraits, Model>> changes = new LinkedHashMap<>();
        int[][] sets = {{0, 3, -9}, {2, 1, 8}, {1, 1, 0}};
        for (int[] set : sets) {
            changes.put("set" + Arrays.toString(set), (traits, model) -> {
                model.a[set[0]][set[1]] = set[2];
                Check.due("set" + Arrays.toString(set), traits.set(set[0], set[1], set[2]), 0);
            });
        }
        changes.put("flip()", (traits, model) -> {
            model.flip();
            traits.flip();
        });
        int[][] pairs = {{0, 1}, {3, 1}, {2, 0}, {2, 2}};
        for (int[] pair : pairs) {
            changes.put("relabel" + Arrays.toString(pair), (traits, model) -> {
                model.relabel(pair[0], pair[1]);
                Check.due("relabel" + Arrays.toString(pair), traits.relabel(pair[0], pair[1]), 0);
            });
        }
        changes.put("negate()", (traits, model) -> {
            model.negate();
            traits.negate();
        });
        changes.put("set(4, 0, 1)", (traits, model) ->
                Check.due("set(4, 0, 1)", traits.set(4, 0, 1), MatrixTraits.BAD_PLACE));
        changes.put("set(0, 0, 10)", (traits, model) ->
                Check.due("set(0, 0, 10)", traits.set(0, 0, 10), MatrixTraits.BAD_ENTRY));
        changes.put("relabel(0, 4)", (traits, model) ->
                Check.due("relabel(0, 4)", traits.relabel(0, 4), MatrixTraits.BAD_PLACE));
        return changes;
    }

    private static void changesFollowOneAnother(String... run) {
        MatrixTraits traits = Check.table(Check.SOME);
        Model model = Model.of(Check.SOME);
        for (String change : run) {
            CHANGES.get(change).accept(traits, model);
        }
        Check.dueEntries(Arrays.toString(run), traits, model.entries());
    }

    /** Asked before each change too, so that an answer kept from then would be seen. */
    private static void answersFollowTheChanges(String first, String second) {
        ASKS.forEach((name, ask) -> {
            MatrixTraits traits = Check.table(Check.SOME);
            Model model = Model.of(Check.SOME);
            ask.apply(traits);
            for (String change : List.of(first, second)) {
                CHANGES.get(change).accept(traits, model);
                Object alone = ask.apply(Check.table(model.entries()));
                String call = first + ", " + second + ", by " + change + ": " + name;
                Check.due(call, ask.apply(traits), alone);
            }
        });
    }
}
