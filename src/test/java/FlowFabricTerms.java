import java.util.ArrayList;
import java.util.List;

/** The sentences ahead of the promises that set bounds, each with tests of its own. */
public final class FlowFabricTerms {
    private static final String TERMS = "terms";

    /** Calls over and over again after a run, and then the rows, of which the last is the 512th call. */
    private static void dueAtLast(List<String> run, List<String> over, String... rows) {
        List<String> calls = new ArrayList<>(run);
        for (int n = 0; calls.size() < Runs.CALLS - rows.length; n++) {
            calls.add(over.get(n % over.size()));
        }
        Runs.due(calls, rows);
    }

    private static void calls() {
        Runs.sentence("what it is", "An object is used for at most 512 calls after it has been made");
        dueAtLast(States.NEW, List.of("link(0, 19)", "unlink(0)"), "link(0, 19) 0", "unlink(19) 0");
        dueAtLast(States.NEW, List.of("add(4, 0, 1, 0)", "drop(4, 0)"), "add(4, 0, 1, 0) 0", "drop(4, 0) 0");
        dueAtLast(States.THIRTY, List.of("move(4, 0, 5)"), "end(36, 24) 116", "rules(4) 6");
        dueAtLast(States.NEW, List.of("publish()"), "publish() 1");
        dueAtLast(States.THIRTY, List.of("revert()"), "revert() 30");
        dueAtLast(States.NEW, List.of("send(0, 0)", "tick()"), "send(0, 0) 0", "tick() 0");
        dueAtLast(States.NEW, List.of("send(0, 0)"), "send(0, 0) -3");
        dueAtLast(States.TOWN, List.of("tick()"), "send(19, 1) 0", "tick() 1");
        dueAtLast(States.CROWD, List.of("publish()"), "publish() -4", "tick() 8");
        dueAtLast(States.TOWN, List.of("needless(0, 3)", "visiting(2, 2)", "differing(12)", "end(19, 1)"),
                "needless(0, 3) 0", "visiting(2, 2) 33", "differing(12) 32", "end(19, 1) 2");
        callsOfTheRing();
    }

    /** Packets by the eight, each treated 16 times, until the object's calls are used up. */
    private static void callsOfTheRing() {
        List<String> rows = new ArrayList<>();
        while (rows.size() + 24 + States.ring().size() <= Runs.CALLS) {
            for (int k = 0; k < 8; k++) {
                rows.add("send(2, 63) " + k);
            }
            for (int n = 1; n < 16; n++) {
                rows.add("tick() 8");
            }
            rows.add("tick() 0");
        }
        while (rows.size() + States.ring().size() < Runs.CALLS) {
            rows.add("state(7) 4");
        }
        Runs.due(States.ring(), rows.toArray(new String[0]));
    }

    private static void places() {
        Runs.sentence(TERMS, "There are five SWITCHES 0 .. 4, each with four PORTS 0 .. 3; port p of switch s is the "
                + "PLACE 4 * s + p (0 .. 19).");
        for (int a = 0; a < 20; a++) {
            for (int action = 0; action < 4; action++) {
                List<String> run = Runs.run(Runs.rule(a / 4, 0, 0, action, 0, 0), "publish()");
                int to = 4 * (a / 4) + action;
                Runs.due(run, "send(" + a + ", 0) 0", "tick() 0", "where(0) " + to, "end(" + a + ", 0) " + (100 + to));
                Runs.due(run, "visiting(" + a + ", " + a / 4 + ")", 64);
            }
        }
        for (String call : List.of("add(5, 0, 0, 0)", "add(-1, 0, 0, 0)", "rules(5)", "rules(-1)", "link(20, 1)",
                "link(1, -1)", "send(20, 0)", "send(-1, 0)", "add(0, 0, 6, 0)", "add(0, 0, -1, 0)")) {
            Runs.changesNothing(States.TOWN, call, Runs.BAD);
        }
    }

    private static void links() {
        Runs.sentence(TERMS, "A place may be LINKED to another place, and that one to it");
        Runs.due(States.NEW, "link(0, 0) -1", "link(0, 19) 0", "linked(0) 19", "linked(19) 0", "linked(1) -2",
                "linked(18) -2");
        // Both ways, also between places of one switch.
        List<String> back = Runs.run(Runs.rule(0, 0, 0, 5, 0, 0), Runs.rule(4, 0, 0, 5, 0, 0), "publish()");
        Runs.due(Runs.then(back, "send(0, 0)", "send(19, 0)", "link(0, 19)"), "tick() 2", "where(0) 19", "where(1) 0",
                "tick() 2", "where(0) 0", "where(1) 19");
        Runs.due(Runs.then(back, "send(0, 0)", "send(3, 0)", "link(3, 0)"), "tick() 2", "where(0) 3", "where(1) 0");
        Runs.sentence(TERMS, "a place that is not linked is a HOST's");
        for (int a = 0; a < 20; a++) {
            Runs.due(States.NEW, "send(" + a + ", 0) 0");
            Runs.due(Runs.run("link(" + a + ", " + (a + 1) % 20 + ")"), "send(" + a + ", 0) -4",
                    "unlink(" + a + ") " + (a + 1) % 20, "send(" + a + ", 0) 0");
        }
        Runs.sentence(TERMS, "Links are the same for everything, and count from the moment of their change.");
        // Packet 0 is treated by an earlier table, packet 1 by the active one; the staged one has a third rule.
        List<String> three = Runs.run(Runs.rule(0, 0, 0, 0, 0, 0), "publish()", "send(3, 0)", "drop(0, 0)",
                Runs.rule(0, 0, 0, 0, 1, 1), "publish()", "send(3, 0)", "drop(0, 0)", Runs.rule(0, 0, 0, 0, 2, 2));
        Runs.due(three, "end(3, 0) 100", "end(23, 0) 100", "link(0, 1) 0", "end(3, 0) 2", "end(23, 0) 2", "tick() 2",
                "where(0) 1", "where(1) 1", "unlink(0) 1", "end(1, 0) 100", "end(21, 0) 100", "link(0, 2) 0",
                "tick() 2", "where(0) 2", "where(1) 2", "unlink(2) 0", "tick() 0", "where(0) 0", "where(1) 0",
                "state(0) 2", "state(1) 2", "link(0, 1) 0", "where(0) 0", "state(0) 2", "tick() 0");
        // A packet in flight may stand at a place that is linked only after it has come in, or not linked any more.
        Runs.due(States.ring(), "send(2, 5) 0", "link(2, 3) 0", "where(0) 2", "tick() 1", "where(0) 1", "unlink(1) 0",
                "where(0) 1", "state(0) 1", "tick() 0", "where(0) 0");
    }

    private static void headersAndRules() {
        Runs.sentence(TERMS, "A packet has a HEADER 0 .. 63.");
        for (int h : new int[] {0, 63}) {
            Runs.due(States.NEW, "send(0, " + h + ") 0", "header(0) " + h, "end(0, " + h + ") 1");
        }
        for (int h : Runs.outside(0, 63)) {
            Runs.changesNothing(States.NEW, "send(0, " + h + ")", Runs.BAD);
            Runs.changesNothing(States.NEW, "end(0, " + h + ")", Runs.BAD);
        }
        rulesAtTheirEnds();
        Runs.sentence(TERMS, "It MATCHES a header h if (h xor value) & care is 0");
        int[] codes = {0, 1, 32, 63, 21, 42};
        for (int care : codes) {
            for (int value : codes) {
                List<String> run = Runs.run(Runs.rule(2, care, value, 1, 0, 0));
                List<String> rows = new ArrayList<>();
                for (int h = 0; h < 64; h++) {
                    rows.add("end(28, " + h + ") " + (((h ^ value) & care) == 0 ? 109 : 1));
                }
                Runs.due(run, rows.toArray(new String[0]));
            }
        }
        Runs.sentence(TERMS, "it makes h the header (h & ~mask) | (bits & mask)");
        for (int mask : codes) {
            for (int bits : codes) {
                List<String> run = Runs.run(Runs.rule(2, 0, 0, 1, mask, bits), "publish()");
                List<String> rows = new ArrayList<>();
                for (int h : codes) {
                    rows.addAll(List.of("send(8, " + h + ") 0", "tick() 0", "state(0) 2",
                            "header(0) " + (h & ~mask | bits & mask)));
                }
                Runs.due(run, rows.toArray(new String[0]));
            }
        }
        Runs.sentence(TERMS, "A TABLE has a list of at most six rules for every switch.");
        for (int s = 0; s < 5; s++) {
            Runs.due(States.THIRTY, "rules(" + s + ")", 6);
            Runs.changesNothing(States.THIRTY, Runs.rule(s, 63, 63, 0, 0, 0), Runs.FULL);
            // Both tables have all six: by its number each rule takes another header, and sends it out elsewhere.
            for (int i = 0; i < 6; i++) {
                int header = 6 * s + i;
                int to = 4 * s + header % 4;
                Runs.due(States.THIRTY, "end(" + 4 * s + ", " + header + ") " + (100 + to),
                        "end(" + (4 * s + 20) + ", " + header + ") " + (100 + to), "deciding(" + s + ", " + i + ") 1",
                        "send(" + 4 * s + ", " + header + ") 0", "tick() 0", "header(0) " + (63 - header));
            }
        }
    }

    private static void rulesAtTheirEnds() {
        Runs.sentence(TERMS, "A RULE has a CARE and a VALUE (0 .. 63 each), an ACTION 0 .. 5, and a MASK and BITS "
                + "(0 .. 63 each).");
        for (int ends = 0; ends < 16; ends++) {
            int care = 63 * (ends & 1);
            int value = 63 * (ends >> 1 & 1);
            int mask = 63 * (ends >> 2 & 1);
            int bits = 63 * (ends >> 3);
            int header = 63 - value;
            // Header 63 - value is matched only if nothing is cared for.
            for (int action = 0; action < 6; action++) {
                boolean out = care == 0 && action != 4;
                int place = action == 5 ? 9 : 8 + action;
                Runs.due(Runs.run(Runs.rule(2, care, value, action, mask, bits), "publish()"),
                        "send(9, " + header + ") 0", "tick() 0", "state(0) " + (out ? 2 : 3),
                        "where(0) " + (out ? place : 9), "header(0) " + (out && mask == 63 ? bits : header));
            }
        }
        for (String call : List.of(Runs.rule(2, 64, 0, 0, 0, 0), Runs.rule(2, 63, 64, 0, 0, 0),
                Runs.rule(2, 0, -1, 0, 0, 0), Runs.rule(2, -1, 0, 0, 0, 0), Runs.rule(2, 0, 0, 6, 0, 0),
                Runs.rule(2, 0, 0, -1, 0, 0), Runs.rule(2, 0, 0, 0, 64, 0), Runs.rule(2, 0, 0, 0, 63, 64),
                Runs.rule(2, 0, 0, 0, 0, -1), Runs.rule(2, 0, 0, 0, -1, 0))) {
            Runs.changesNothing(States.TOWN, call, Runs.BAD);
        }
    }

    private static void treating() {
        Runs.sentence(TERMS, "the first rule of the list for s that matches its header decides");
        for (int first = 0; first < 6; first++) {
            // The rules ahead match header 63 alone, and so do not decide for 0.
            List<String> calls = new ArrayList<>();
            for (int i = 0; i < 6; i++) {
                calls.add(i < first ? Runs.rule(0, 63, 63, 1, 0, 0) : Runs.rule(0, 0, 0, 2, 63, i));
            }
            calls.add("publish()");
            Runs.due(calls, "send(0, 0) 0", "tick() 0", "where(0) 2", "header(0) " + first, "end(0, 0) 102",
                    "end(20, 0) 102", "end(0, 63) " + (first == 0 ? 102 : 101));
        }
        Runs.sentence(TERMS, "if there is none, or its action is 4, the packet is DROPPED");
        Runs.due(States.NEW, "send(5, 9) 0", "tick() 0", "state(0) 3", "where(0) 5", "header(0) 9", "end(5, 9) 1");
        Runs.due(States.THIRTY, "send(0, 63) 0", "tick() 0", "state(0) 3", "where(0) 0", "header(0) 63", "end(0, 63) 1",
                "end(20, 63) 1");
        Runs.due(Runs.run("link(5, 6)", Runs.rule(1, 0, 0, 4, 63, 63), Runs.rule(1, 0, 0, 1, 0, 0), "publish()"),
                "send(4, 9) 0", "tick() 0", "state(0) 3", "where(0) 4", "header(0) 9", "end(5, 9) 1", "end(25, 9) 1");
        // A rule of another switch, or of the staged table, does not decide for a packet in flight.
        Runs.due(Runs.run(Runs.rule(0, 0, 0, 1, 0, 0), "publish()", Runs.rule(1, 0, 0, 1, 0, 0)), "send(4, 9) 0",
                "tick() 0", "state(0) 3");
        Runs.sentence(TERMS, "Else its header becomes what the rule makes it, and it goes out at the port of s that "
                + "the action names (0 .. 3), or at p (action 5).");
        for (int action = 0; action < 4; action++) {
            Runs.due(Runs.run(Runs.rule(1, 0, 0, action, 42, 8), "publish()"), "send(6, 63) 0", "tick() 0",
                    "where(0) " + (4 + action), "header(0) 29");
        }
        for (int a = 0; a < 20; a++) {
            Runs.due(Runs.run(Runs.rule(a / 4, 0, 0, 5, 0, 0), "publish()"), "send(" + a + ", 0) 0", "tick() 0",
                    "state(0) 2", "where(0) " + a, "end(" + a + ", 0) " + (100 + a));
        }
        Runs.sentence(TERMS, "If that place is linked, the packet has come in at the place to which it is linked; "
                + "if not, it is DELIVERED at that place.");
        for (int a = 4; a < 20; a++) {
            Runs.due(Runs.run("link(0, " + a + ")", Runs.rule(0, 0, 0, 0, 0, 0), "publish()"), "send(1, 0) 0",
                    "tick() 1", "state(0) 1", "where(0) " + a, "tick() 0", "state(0) 3", "where(0) " + a);
        }
        Runs.due(Runs.run(Runs.rule(0, 0, 0, 0, 0, 0), "publish()"), "send(1, 0) 0", "tick() 0", "state(0) 2",
                "where(0) 0", "tick() 0", "state(0) 2");
    }

    private static List<String> treated(List<String> run, int header, int times) {
        return Runs.then(Runs.then(run, "send(2, " + header + ")"), Runs.times(times, "tick()"));
    }

    private static void lost() {
        Runs.sentence(TERMS, "A packet that has been treated 16 times and is neither dropped nor delivered is LOST.");
        // Not with the 15th treatment, and not only with the 17th.
        Runs.due(treated(States.ring(), 9, 14), "tick() 1", "state(0) 1", "tick() 0", "state(0) 4", "where(0) 1",
                "header(0) 9", "tick() 0", "state(0) 4");
        // The 16th treatment delivers, or drops; a 17th would.
        Runs.due(treated(States.countdown(3), 15, 15), "state(0) 1", "header(0) 0", "tick() 0", "state(0) 2",
                "where(0) 3", "end(2, 15) 103", "end(22, 15) 103");
        Runs.due(treated(States.countdown(4), 15, 15), "state(0) 1", "where(0) 1", "tick() 0", "state(0) 3",
                "where(0) 1", "header(0) 0", "end(2, 15) 1", "end(22, 15) 1");
        for (int action : new int[] {3, 4}) {
            Runs.due(treated(States.countdown(action), 16, 15), "state(0) 1", "header(0) 1", "tick() 0", "state(0) 4",
                    "where(0) 1", "header(0) 0", "end(2, 16) 2", "end(22, 16) 2");
        }
        // The place to which the 16th treatment leads is the one at which the packet has come in last.
        List<String> on = Runs.then(States.countdown(3), "link(3, 8)");
        Runs.due(treated(on, 15, 15), "where(0) 1", "tick() 0", "state(0) 4", "where(0) 8", "header(0) 0");
        Runs.due(treated(on, 14, 15), "where(0) 8", "tick() 0", "state(0) 3", "where(0) 8", "header(0) 0");
        // Each packet has a count of its own, from its sending on.
        for (int k = 1; k < 8; k++) {
            List<String> run = new ArrayList<>(States.ring());
            for (int n = 0; n <= k; n++) {
                run.addAll(List.of("send(2, 0)", "tick()"));
            }
            run.addAll(List.of(Runs.times(15 - k - 1, "tick()")));
            Runs.due(run, "state(0) 1", "tick() " + k, "state(0) 4", "state(1) 1", "state(" + k + ") 1",
                    "tick() " + (k - 1), "state(1) 4");
        }
    }

    private static void tables() {
        Runs.sentence(TERMS, "There are two tables at work: the STAGED one, which is changed by the calls on rules, "
                + "and the ACTIVE one.");
        Runs.due(States.TOWN, "end(12, 40) 114", "end(32, 40) 115", "drop(3, 0) 1", "end(12, 40) 114",
                "end(32, 40) 114", "drop(3, 0) 0", "end(12, 40) 114", "end(32, 40) 1", "add(3, 0, 1, 0) 0",
                "end(12, 40) 114", "end(32, 40) 113", "add(3, 0, 0, 0) 1", "move(3, 1, 0) 0", "end(12, 40) 114",
                "end(32, 40) 112");
        Runs.sentence(TERMS, "At first both have no rules.");
        for (int s = 0; s < 5; s++) {
            Runs.due(States.NEW, "rules(" + s + ")", 0);
            Runs.due(States.NEW, "ending(" + 4 * s + ", 0)", 64);
            Runs.due(States.NEW, "ending(" + (4 * s + 20) + ", 0)", 64);
        }
        Runs.sentence(TERMS, "There may be PACKETS IN FLIGHT, with numbers 0 .. 7.");
        Runs.due(States.NEW, "tick()", 0);
        Runs.due(Runs.then(States.ring(), Runs.times(7, "send(2, 0)")), "send(2, 0) 7", "send(2, 0) -3", "tick() 8",
                "state(0) 1", "state(7) 1", "state(8) -1", "state(-1) -1");
        Runs.sentence(TERMS, "A packet is treated by the table that was active when it was sent, until its end, "
                + "whatever is published meanwhile.");
        // Three tables that write 1, 2 and 3 into the header, and a fourth that drops.
        Runs.due(eachByItsTable(), "tick() 3", "header(0) 1", "header(1) 2", "header(2) 3", "publish() -4",
                "revert() 1", "tick() 3", "header(0) 1", "header(1) 2", "header(2) 3", "end(2, 0) 2", "end(22, 0) 2");
        Runs.due(Runs.then(eachByItsTable(), Runs.times(15, "tick()")), "state(0) 1", "state(1) 1", "state(2) 1",
                "tick() 0", "state(0) 4", "state(1) 4", "state(2) 4", "header(0) 1", "header(1) 2", "header(2) 3",
                "publish() 1", "end(2, 0) 1");
        tablesComeAndGo();
    }

    private static List<String> eachByItsTable() {
        return Runs.run("link(0, 1)", Runs.rule(0, 0, 0, 0, 63, 1), "publish()", "send(2, 0)", "drop(0, 0)",
                Runs.rule(0, 0, 0, 0, 63, 2), "publish()", "send(2, 0)", "drop(0, 0)", Runs.rule(0, 0, 0, 0, 63, 3),
                "publish()", "send(2, 0)", "drop(0, 0)");
    }

    /** One table after the other is used, ends and gives way to a new one, while a first packet keeps its own. */
    private static void tablesComeAndGo() {
        List<String> rows = new ArrayList<>(List.of("link(0, 1) 0", Runs.rule(0, 63, 0, 0, 63, 0) + " 0",
                "publish() 1", "send(2, 0) 0"));
        for (int n = 1; n < 15; n++) {
            rows.addAll(List.of("drop(0, 0) 0", Runs.rule(0, 0, 0, 3, 63, n) + " 0", "publish() 2", "send(2, 50) 1",
                    Runs.rule(0, 63, 0, 0, 63, 0) + " 1", "move(0, 1, 0) 0", "publish() 3", "send(2, 60) 2",
                    "publish() -4", "tick() 1", "state(0) 1", "where(0) 1", "header(0) 0", "state(1) 2",
                    "header(1) " + n, "state(2) 2", "header(2) " + n, "drop(0, 1) 1"));
        }
        rows.addAll(List.of("tick() 1", "state(0) 1", "tick() 0", "state(0) 4", "publish() 1"));
        Runs.due(States.NEW, rows.toArray(new String[0]));
    }

    private static void kept() {
        Runs.sentence(TERMS, "The active table and those by which packets in flight are treated are KEPT; these are at "
                + "most three.");
        Runs.due(States.ring(), "publish() 1", "publish() 1", "publish() 1", "publish() 1");
        Runs.due(Runs.then(States.ring(), "send(2, 0)", "publish()"), "publish() 2", "send(2, 0) 1", "publish() 3",
                "publish() 3", "send(2, 0) 2", "publish() -4", "publish() -4");
        // Two packets of one table keep one table.
        Runs.due(Runs.then(States.ring(), "send(2, 0)", "send(2, 0)", "publish()", "send(2, 0)", "send(2, 0)"),
                "publish() 3", "send(2, 0) 4", "send(2, 0) 5", "publish() -4");
        // One packet is enough to keep a table, whatever its number.
        for (int k = 0; k < 8; k++) {
            List<String> run = new ArrayList<>(List.of("link(0, 1)", Runs.rule(0, 1, 1, 0, 0, 0), "publish()"));
            for (int n = 0; n < 8; n++) {
                run.add("send(2, " + (n == k ? 1 : 0) + ")");
            }
            Runs.due(run, "tick() 1", "state(" + k + ") 1", "drop(0, 0) 0", "publish() 2", "publish() 2", "tick() 1",
                    "where(" + k + ") 1", "end(2, 1) 1");
        }
        // The first, the second and the third table, each set free by the end of its packets.
        for (int free = 0; free < 3; free++) {
            List<String> run = new ArrayList<>(List.of("link(0, 1)", Runs.rule(0, 1, 1, 0, 0, 0), "publish()"));
            for (int n = 0; n < 3; n++) {
                run.add("send(2, " + (n == free ? 0 : 1) + ")");
                run.add("publish()");
            }
            Runs.changesNothing(run, "publish()", Runs.BUSY);
            Runs.due(run, "tick() 2", "state(" + free + ") 3", "publish() 3", "send(2, 1) " + free, "publish() "
                    + Runs.BUSY, "tick() 3");
        }
    }

    private static void order() {
        Runs.sentence(TERMS, "In every method the tests are made in the order named.");
        // Two tests fail at once, or all of them: the one that is named first answers.
        for (String call : List.of("link(0, 0)", "link(0, 20)", "link(-1, 4)", "unlink(20)", "unlink(-1)",
                "linked(20)", "linked(-1)", "add(0, 4096, 0, 0)", "add(0, 0, 6, 0)", "add(0, 0, 0, 4096)",
                "add(0, -1, 0, 0)", "add(0, 0, -1, 0)", "add(0, 0, 0, -1)", "send(-1, 0)", "send(20, 0)",
                "send(0, 64)", "send(0, -1)", "send(19, 64)", "where(8)", "where(-1)", "header(8)", "header(-1)",
                "nextArriving(40, 0, 63)", "nextArriving(0, 20, 63)", "nextArriving(-1, -1, 63)")) {
            Runs.changesNothing(States.CROWD, call, Runs.BAD);
        }
        Runs.changesNothing(States.CROWD, "send(0, 0)", Runs.BUSY);
        Runs.changesNothing(States.CROWD, "send(17, 63)", Runs.BUSY);
    }

    private static void refusals() {
        Runs.sentence(TERMS, "A refused call (an answer below 0) changes nothing.");
        for (List<String> state : List.of(States.NEW, States.TOWN, States.CROWD, States.THIRTY)) {
            for (String call : List.of("link(3, 3)", "link(0, 20)", "link(-1, 19)", "unlink(20)", "linked(-1)",
                    "add(5, 0, 0, 0)", "add(1, 4096, 0, 0)", "add(1, 0, 6, 0)", "add(1, 0, 0, 4096)", "drop(5, 0)",
                    "drop(0, 6)", "drop(0, -1)", "move(5, 0, 0)", "move(0, 6, 0)", "move(0, 0, 6)", "move(0, -1, 0)",
                    "move(0, 0, -1)", "rules(5)", "send(20, 0)", "send(19, 64)", "state(8)", "where(8)", "header(8)",
                    "end(40, 0)", "end(0, 64)", "arriving(40, 0)", "arriving(0, 20)", "nextArriving(40, 0, 0)",
                    "nextArriving(0, 20, 0)", "ending(40, 0)", "ending(0, 2)", "visiting(40, 0)", "visiting(0, 5)",
                    "differing(20)", "deciding(5, 0)", "deciding(0, 6)", "needless(5, 0)", "needless(0, 6)")) {
                Runs.changesNothing(state, call, Runs.BAD);
            }
            Runs.changesNothing(state, "unlink(19)", Runs.NONE);
            Runs.changesNothing(state, "linked(19)", Runs.NONE);
            Runs.changesNothing(state, "nextArriving(11, 8, 63)", Runs.NONE);
        }
        for (String call : List.of("where(5)", "header(5)", "where(7)", "header(7)", "unlink(1)")) {
            Runs.changesNothing(States.TOWN, call, Runs.NONE);
        }
        for (String call : List.of("link(0, 19)", "link(19, 0)", "link(4, 0)", "send(0, 0)", "send(8, 63)",
                "publish()")) {
            Runs.changesNothing(States.CROWD, call, Runs.BUSY);
        }
        Runs.changesNothing(States.CROWD, "send(19, 0)", Runs.FULL);
        Runs.changesNothing(States.CROWD, "add(0, 0, 0, 0)", Runs.FULL);
        // Many of them, one after the other.
        Runs.comesToTheSame(States.CROWD, "publish()", "send(19, 0)", "send(0, 0)", "add(0, 0, 0, 0)", "link(0, 1)",
                "unlink(1)", "drop(2, 0)", "move(2, 0, 0)", "publish()", "send(20, 0)");
    }

    private static void questions() {
        Runs.sentence(TERMS, "Questions change nothing.");
        for (List<String> state : List.of(States.TOWN, States.CROWD, States.THIRTY)) {
            for (String call : List.of("rules(0)", "rules(4)", "state(0)", "state(7)", "end(0, 0)", "end(19, 1)",
                    "end(39, 63)", "end(2, 0)", "arriving(0, 0)", "arriving(19, 18)", "arriving(39, 19)",
                    "ending(0, 0)", "ending(19, 1)", "ending(39, 0)", "visiting(2, 2)", "visiting(22, 1)",
                    "visiting(39, 4)", "differing(0)", "differing(12)", "differing(19)", "deciding(0, 0)",
                    "deciding(0, 5)", "deciding(4, 2)", "needless(0, 0)", "needless(0, 2)", "needless(0, 5)",
                    "needless(1, 0)", "needless(3, 1)", "needless(4, 0)", "needless(4, 2)")) {
                Runs.question(state, call);
            }
        }
        for (String call : List.of("linked(0)", "linked(17)", "where(0)", "where(4)", "header(0)", "header(4)",
                "nextArriving(19, 18, -1)", "nextArriving(39, 18, 3)", "nextArriving(12, 14, 62)")) {
            Runs.question(States.TOWN, call);
        }
        // Asked again, they answer the same.
        Runs.due(States.TOWN, "needless(0, 2) 0", "needless(0, 2) 0", "deciding(0, 2) 16", "deciding(0, 2) 16",
                "visiting(2, 2) 33", "visiting(2, 2) 33", "nextArriving(12, 14, 5) 6", "nextArriving(12, 14, 5) 6",
                "differing(12) 32", "differing(12) 32", "end(19, 1) 2", "end(19, 1) 2");
    }

    /** What the questions say of a packet, and what becomes of one that is sent. */
    private static void allPackets() {
        Runs.sentence(TERMS, "what would become of a packet with a header that comes in at a place (linked or not), "
                + "if the active table (from is the place) or the staged one (from is the place + 20) treated it to "
                + "its end");
        for (int a : new int[] {1, 2, 5, 6, 9, 13, 18, 19}) {
            for (int h = 0; h < 64; h++) {
                endsAsSaid(a, States.TOWN, a, h);
                endsAsSaid(a + 20, Runs.then(States.TOWN, "publish()"), a, h);
            }
        }
        // At a linked place none can be sent; one that is sent ahead of the link can be there.
        List<String> sent = Runs.run(Runs.rule(0, 0, 0, 2, 0, 0), "publish()", "send(0, 7)", "link(0, 5)");
        Runs.due(sent, "end(0, 7) 102", "end(20, 7) 102", "tick() 0", "where(0) 2");
    }

    private static void endsAsSaid(int from, List<String> sending, int place, int header) {
        int end = Runs.last(Runs.then(States.TOWN, "end(" + from + ", " + header + ")"));
        List<String> flown = Runs.then(Runs.then(sending, "send(" + place + ", " + header + ")"),
                Runs.times(16, "tick()"));
        Runs.due(flown, "state(0)", end >= 100 ? 2 : end == 1 ? 3 : 4);
        if (end >= 100) {
            Runs.due(flown, "where(0)", end - 100);
        }
    }

    public static void main(String[] args) {
        calls();
        places();
        links();
        headersAndRules();
        treating();
        lost();
        tables();
        kept();
        order();
        refusals();
        questions();
        allPackets();
        Runs.end();
    }
}
