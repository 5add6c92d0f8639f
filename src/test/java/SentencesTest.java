import java.io.IOException;
import java.nio.file.Path;
import java.util.Set;
import java.util.function.Supplier;

/** The document sentence by sentence: the runs of src/test/runs, held by the program and by PlainModel. */
public final class SentencesTest {
    private static final String[] FILES = {"terms.txt", "promises.txt"};
    private static final Set<String> QUESTIONS = Set.of("process", "taken", "heard", "terminal");
    /** Answers of calls that can't be done and change nothing. */
    private static final Set<String> REFUSALS = Set.of("-1", "-2", "-3", "-5", "-7", "-8");

    public static void main(String[] args) throws IOException {
        int count = 0;
        for (String file : FILES) {
            for (Run run : Run.read(Path.of("src/test/runs", file))) {
                hold(run, "", JobLayer::new);
                hold(run, "the model: ", PlainModel::new);
                count++;
            }
        }
        System.out.println(count + " runs");
        Check.finish();
    }

    private static void hold(Run run, String who, Supplier<Object> maker) {
        Object target = maker.get();
        for (int i = 0; i < run.steps().size(); i++) {
            Run.Step step = run.steps().get(i);
            String call = who + run.title() + ", call " + (i + 1) + ", " + step.told();
            Check.due(call, step.answer(target), step.due());
            if (isRefused(step)) {
                Check.due(call + " changed something: it", stateAfter(run, i + 1, maker), stateAfter(run, i, maker));
            }
        }
    }

    private static boolean isRefused(Run.Step step) {
        return !QUESTIONS.contains(step.name()) && (step.due().startsWith("throws.") || REFUSALS.contains(step.due()));
    }

    private static String stateAfter(Run run, int calls, Supplier<Object> maker) {
        Object target = maker.get();
        for (Run.Step step : run.steps().subList(0, calls)) {
            step.answer(target);
        }
        return Calls.state(target).toString();
    }
}
