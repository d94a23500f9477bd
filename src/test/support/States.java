import java.util.ArrayList;
import java.util.List;

/** Runs that lead to the states in which the tests look at a sentence. */
final class States {
    /** A new object: no links, no rules, no packets, one table kept. */
    static final List<String> NEW = List.of();

    /**
     * A bit of everything. Linked are 16 and 17, 0 and 4, 3 and 8. The staged lists have 6, 1, 0, 2 and 3 rules, the
     * active ones 2, 1, 0, 1 and 3. Packet 0 is lost, 1 in flight, 2 delivered, 3 dropped, 4 in flight, and there were
     * no others yet. Packets 1 and 4 are treated by two earlier tables, so that three tables are kept.
     */
    static final List<String> TOWN = town();

    /** As TOWN, with six packets more, by the active table: eight are in flight. */
    static final List<String> CROWD = Runs.then(TOWN, Runs.times(6, "send(19, 1)"));

    /** Six rules for each switch, in the staged and the active table. */
    static final List<String> THIRTY = thirty();

    /** A list whose rule i, for every header, sends out at place 2 and makes the header i. */
    static final List<String> SIX = six();

    private States() {
    }

    /**
     * The low five bits of a header count down by one at every treatment, from place 1 out at 0 and in at 1 again; at
     * 0 the action named decides. So a packet with the low bits n comes to that action with its treatment n + 1.
     */
    static List<String> countdown(int action) {
        return List.of("link(0, 1)", Runs.rule(0, 1, 1, 0, 1, 0), Runs.rule(0, 3, 2, 0, 3, 1),
                Runs.rule(0, 7, 4, 0, 7, 3), Runs.rule(0, 15, 8, 0, 15, 7), Runs.rule(0, 31, 16, 0, 31, 15),
                Runs.rule(0, 31, 0, action, 0, 0), "publish()");
    }

    /** Packets that are sent at place 2 go round for ever, in at place 1 each time. */
    static List<String> ring() {
        return List.of("link(0, 1)", Runs.rule(0, 0, 0, 0, 0, 0), "publish()");
    }

    private static List<String> town() {
        List<String> calls = new ArrayList<>(List.of("link(16, 17)", "link(0, 4)", "link(3, 8)"));
        // Odd headers go round at switch 4, by each table in another way; 2 is dropped and 8 delivered at 18.
        calls.addAll(List.of(Runs.rule(4, 1, 1, 0, 0, 0), Runs.rule(4, 3, 2, 4, 0, 0), Runs.rule(4, 0, 0, 2, 4, 4)));
        calls.addAll(List.of("publish()", "send(19, 1)"));
        calls.addAll(List.of(Runs.times(5, "tick()")));
        calls.addAll(List.of("drop(4, 0)", Runs.rule(4, 1, 1, 1, 0, 0), "move(4, 2, 0)"));
        calls.addAll(List.of("publish()", "send(19, 3)"));
        calls.addAll(List.of(Runs.times(8, "tick()")));
        calls.addAll(List.of("drop(4, 0)", Runs.rule(4, 1, 1, 0, 32, 32), "move(4, 2, 0)"));
        calls.addAll(List.of("publish()", "send(19, 8)", "send(19, 2)", "send(19, 5)"));
        calls.addAll(List.of(Runs.times(3, "tick()")));
        calls.addAll(List.of(Runs.rule(0, 63, 0, 0, 63, 9), Runs.rule(0, 1, 1, 3, 0, 0),
                Runs.rule(1, 0, 0, 5, 0, 0), Runs.rule(3, 0, 0, 2, 0, 0), "publish()"));
        calls.addAll(List.of(Runs.rule(0, 2, 2, 1, 0, 0), Runs.rule(0, 4, 4, 5, 1, 1), Runs.rule(0, 8, 8, 4, 0, 0),
                Runs.rule(0, 0, 0, 2, 7, 5), Runs.rule(3, 32, 32, 3, 0, 0), "move(3, 1, 0)"));
        return List.copyOf(calls);
    }

    private static List<String> thirty() {
        List<String> calls = new ArrayList<>();
        for (int n = 0; n < 30; n++) {
            calls.add(Runs.rule(n / 6, 63, n, n % 4, 63, 63 - n));
        }
        calls.add("publish()");
        return List.copyOf(calls);
    }

    private static List<String> six() {
        List<String> calls = new ArrayList<>();
        for (int i = 0; i < 6; i++) {
            calls.add(Runs.rule(0, 0, 0, 2, 63, i));
        }
        return List.copyOf(calls);
    }
}
