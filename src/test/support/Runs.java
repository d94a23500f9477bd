import java.lang.reflect.InvocationTargetException;
import java.lang.reflect.Method;
import java.util.ArrayList;
import java.util.Arrays;
import java.util.HashMap;
import java.util.List;
import java.util.Map;

/**
 * Runs of calls on new objects, told as text ("link(0, 4)"), so that a run can be made again with other calls after
 * it. That is how it is seen whether a call has changed something: a run with it and one without must go on alike.
 */
final class Runs {
    static final int BAD = -1;
    static final int NONE = -2;
    static final int FULL = -3;
    static final int BUSY = -4;
    static final int LEAST = Integer.MIN_VALUE;
    static final int GREATEST = Integer.MAX_VALUE;
    /** The document promises nothing of an object after so many calls. */
    static final int CALLS = 512;

    private record Call(Method method, Object[] arguments) {
    }

    private static final Map<String, Call> READ = new HashMap<>();
    private static final Map<List<String>, int[][]> SEEN = new HashMap<>();
    private static final List<List<String>> LOOKS = looks();

    private static String sentence = "";
    private static int sentences = 0;
    private static int checksBefore = 0;
    private static int checks = 0;
    private static int wrong = 0;

    private Runs() {
    }

    /** Names the sentence of the document whose tests come next. */
    static void sentence(String place, String words) {
        endSentence();
        sentence = place + ", '" + words + "'";
        sentences++;
    }

    static void sentence(int promise, String words) {
        sentence("promise " + promise, words);
    }

    private static void endSentence() {
        if (sentences > 0 && checks == checksBefore) {
            report("is not tested");
        }
        checksBefore = checks;
    }

    /** Ends the program with exit code 1 if an answer was not the one that is due. */
    static void end() {
        endSentence();
        System.out.println(sentences + " sentences, " + checks + " answers looked at, " + wrong + " wrong");
        if (wrong > 0) {
            System.exit(1);
        }
    }

    private static void report(String what) {
        wrong++;
        System.out.println(sentence + ": " + what);
    }

    static List<String> run(String... calls) {
        return List.of(calls);
    }

    static List<String> then(List<String> run, String... more) {
        return join(run, List.of(more));
    }

    static List<String> join(List<String> run, List<String> more) {
        List<String> both = new ArrayList<>(run);
        both.addAll(more);
        return List.copyOf(both);
    }

    static String[] times(int n, String call) {
        String[] calls = new String[n];
        Arrays.fill(calls, call);
        return calls;
    }

    static String rule(int s, int care, int value, int action, int mask, int bits) {
        return "add(" + s + ", " + (64 * care + value) + ", " + action + ", " + (64 * mask + bits) + ")";
    }

    private static Call read(String text) {
        int open = text.indexOf('(');
        String inside = text.substring(open + 1, text.length() - 1);
        Object[] arguments = inside.isEmpty() ? new Object[0]
                : Arrays.stream(inside.split(", ")).map(Integer::valueOf).toArray();
        Class<?>[] types = new Class<?>[arguments.length];
        Arrays.fill(types, int.class);
        try {
            return new Call(FlowFabric.class.getMethod(text.substring(0, open), types), arguments);
        } catch (NoSuchMethodException e) {
            throw new IllegalStateException(text, e);
        }
    }

    private static int answer(FlowFabric x, String text) {
        Call call = READ.computeIfAbsent(text, Runs::read);
        try {
            return (Integer) call.method().invoke(x, call.arguments());
        } catch (IllegalAccessException | InvocationTargetException e) {
            throw new IllegalStateException(sentence + ": " + text, e);
        }
    }

    private static int[] answers(List<String> run) {
        if (run.size() > CALLS) {
            throw new IllegalStateException("a run of " + run.size() + " calls");
        }
        FlowFabric x = new FlowFabric();
        return run.stream().mapToInt(call -> answer(x, call)).toArray();
    }

    /** The answer to the last call of a run. */
    static int last(List<String> run) {
        int[] got = answers(run);
        return got[got.length - 1];
    }

    /** After a run, each row is a call and its answer: "link(0, 4) 0". */
    static void due(List<String> run, String... rows) {
        List<String> calls = Arrays.stream(rows).map(row -> row.substring(0, row.lastIndexOf(' '))).toList();
        int[] got = answers(join(run, calls));
        for (int n = 0; n < rows.length; n++) {
            int want = Integer.parseInt(rows[n].substring(rows[n].lastIndexOf(' ') + 1));
            dueOf(calls.get(n), got[run.size() + n], want, join(run, calls.subList(0, n)));
        }
    }

    static void due(List<String> run, String call, int want) {
        dueOf(call, last(then(run, call)), want, run);
    }

    private static void dueOf(String call, int got, int want, List<String> before) {
        checks++;
        if (got != want) {
            report(call + " answered " + got + ", due is " + want + ", after " + before);
        }
    }

    /** For a refused call or a question: it answers what is due, and nothing has changed after it. */
    static void changesNothing(List<String> run, String call, int want) {
        due(run, call, want);
        comesToTheSame(run, call);
    }

    /** For a question whose answer is tested elsewhere. */
    static void question(List<String> run, String call) {
        checks++;
        int got = last(then(run, call));
        if (got < 0) {
            report(call + " answered " + got + ", after " + run);
        }
        comesToTheSame(run, call);
    }

    /** After a run with some calls more, everything is as it is after the run without them. */
    static void comesToTheSame(List<String> run, String... more) {
        int[][] without = SEEN.computeIfAbsent(run, Runs::see);
        int[][] with = see(then(run, more));
        for (int n = 0; n < LOOKS.size(); n++) {
            checks++;
            int at = Arrays.mismatch(without[n], with[n]);
            if (at >= 0) {
                report("with " + List.of(more) + " " + LOOKS.get(n).get(at) + " answered " + with[n][at]
                        + ", without " + without[n][at] + ", after " + run + " and then "
                        + LOOKS.get(n).subList(0, at));
                return;
            }
        }
    }

    /** An argument just below the range, just above it, far from it, or in it only once its high bits are cut off. */
    static int[] outside(int least, int greatest) {
        return new int[] {least - 1, greatest + 1, LEAST, GREATEST, 1 << 16, -1 << 16};
    }

    /** The argument %d of a call: outside of its range the call is BAD, at both ends of the range it is not. */
    static void range(List<String> run, String form, int least, int greatest) {
        for (int n : outside(least, greatest)) {
            changesNothing(run, form.formatted(n), BAD);
        }
        for (int n : new int[] {least, greatest}) {
            checks++;
            if (last(then(run, form.formatted(n))) == BAD) {
                report(form.formatted(n) + " answered BAD, after " + run);
            }
        }
    }

    private static int[][] see(List<String> run) {
        int[][] seen = new int[LOOKS.size()][];
        for (int n = 0; n < seen.length; n++) {
            int[] got = answers(join(run, LOOKS.get(n)));
            seen[n] = Arrays.copyOfRange(got, run.size(), got.length);
        }
        return seen;
    }

    /** Calls that together show all that an object knows; several runs of them, as one object has 512 calls only. */
    private static List<List<String>> looks() {
        List<List<String>> all = new ArrayList<>();
        all.add(join(lookAtLinks(), join(lookAtSizes(), lookAtPackets())));
        all.add(lookAtFlight());
        all.add(lookAtAllPackets());
        all.add(lookAtKeptTables());
        for (int s = 0; s < 5; s++) {
            all.add(lookAtList(s));
            all.add(join(List.of("revert()"), lookAtList(s)));
        }
        return all;
    }

    private static List<String> lookAtLinks() {
        List<String> calls = new ArrayList<>();
        for (int a = 0; a < 20; a++) {
            calls.add("linked(" + a + ")");
        }
        return calls;
    }

    private static List<String> lookAtSizes() {
        List<String> calls = new ArrayList<>();
        for (int s = 0; s < 5; s++) {
            calls.add("rules(" + s + ")");
        }
        return calls;
    }

    private static List<String> lookAtPackets() {
        List<String> calls = new ArrayList<>();
        for (int k = 0; k < 8; k++) {
            calls.add("state(" + k + ")");
            calls.add("where(" + k + ")");
            calls.add("header(" + k + ")");
        }
        return calls;
    }

    /** Until the last packet has ended, which shows its table and how often it has been treated. */
    private static List<String> lookAtFlight() {
        List<String> calls = new ArrayList<>();
        for (int n = 0; n < 16; n++) {
            calls.add("tick()");
            calls.addAll(lookAtPackets());
        }
        return calls;
    }

    private static List<String> lookAtAllPackets() {
        List<String> calls = new ArrayList<>();
        for (int from = 0; from < 40; from++) {
            calls.add("ending(" + from + ", 0)");
            calls.add("ending(" + from + ", 1)");
            for (int s = 0; s < 5; s++) {
                calls.add("visiting(" + from + ", " + s + ")");
            }
        }
        for (int place = 0; place < 20; place++) {
            calls.add("differing(" + place + ")");
        }
        return calls;
    }

    private static List<String> lookAtKeptTables() {
        List<String> calls = new ArrayList<>();
        for (int n = 0; n < 5; n++) {
            calls.add("publish()");
            calls.add("send(19, 1)");
        }
        return calls;
    }

    /** The rules of a staged list one by one, by what the first of them makes of some packets. */
    private static List<String> lookAtList(int s) {
        List<String> calls = new ArrayList<>();
        for (int a = 0; a < 20; a++) {
            calls.add("unlink(" + a + ")");
        }
        calls.addAll(List.of(times(16, "tick()")));
        int[] headers = {0, 63, 21, 42, 7, 56, 25, 38};
        for (int i = 0; i < 6; i++) {
            calls.add("publish()");
            for (int n = 0; n < 8; n++) {
                calls.add("send(" + (4 * s + n % 4) + ", " + headers[n] + ")");
            }
            calls.add("tick()");
            calls.addAll(lookAtPackets());
            calls.add("deciding(" + s + ", 0)");
            calls.add("drop(" + s + ", 0)");
        }
        return calls;
    }
}
