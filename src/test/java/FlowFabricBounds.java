import java.util.ArrayList;
import java.util.List;

/**
 * The sentences of the promises that name a bound or a refusal, each with tests of its own: the ends of a range and
 * what is beyond them, empty and full, which of two refusals answers, and that a refused call changes nothing.
 */
public final class FlowFabricBounds {
    private static final int[] LISTS_OF_TOWN = {6, 1, 0, 2, 3};
    private static final int[] LINKED_IN_TOWN = {0, 3, 4, 8, 16, 17};
    private static final int[] ALONE_IN_TOWN = {1, 2, 5, 6, 7, 9, 10, 11, 12, 13, 14, 15, 18, 19};

    private static void promise1() {
        Runs.sentence(1, "At first there are none");
        for (int a = 0; a < 20; a++) {
            Runs.changesNothing(States.NEW, "linked(" + a + ")", Runs.NONE);
        }
        Runs.sentence(1, "At first both have no rules");
        for (int s = 0; s < 5; s++) {
            Runs.changesNothing(States.NEW, "rules(" + s + ")", 0);
        }
        for (int from = 0; from < 40; from++) {
            Runs.due(States.NEW, "ending(" + from + ", 0)", 64);
        }
        Runs.due(States.NEW, "revert()", 0);
        Runs.comesToTheSame(States.NEW, "revert()");
        Runs.comesToTheSame(States.NEW, "publish()");
        Runs.sentence(1, "As said above");
        for (int k = 0; k < 8; k++) {
            Runs.changesNothing(States.NEW, "state(" + k + ")", 0);
        }
        Runs.due(States.NEW, "send(0, 0)", 0);
        Runs.due(States.NEW, "publish()", 1);
    }

    private static void promise2() {
        Runs.sentence(2, "Links two places. a or b is not 0 .. 19");
        for (List<String> state : List.of(States.NEW, States.TOWN)) {
            Runs.range(state, "link(%d, 10)", 0, 19);
            Runs.range(state, "link(10, %d)", 0, 19);
        }
        Runs.changesNothing(States.TOWN, "link(-1, 20)", Runs.BAD);
        Runs.changesNothing(States.TOWN, "link(20, -1)", Runs.BAD);
        Runs.sentence(2, "or they are the same: BAD");
        for (int a : ALONE_IN_TOWN) {
            Runs.changesNothing(States.TOWN, "link(" + a + ", " + a + ")", Runs.BAD);
        }
        for (int a : Runs.outside(0, 19)) {
            Runs.changesNothing(States.NEW, "link(" + a + ", " + a + ")", Runs.BAD);
        }
        Runs.sentence(2, "one of them is linked: BUSY");
        for (int a : LINKED_IN_TOWN) {
            Runs.changesNothing(States.TOWN, "link(" + a + ", 10)", Runs.BUSY);
            Runs.changesNothing(States.TOWN, "link(10, " + a + ")", Runs.BUSY);
        }
        Runs.changesNothing(States.TOWN, "link(0, 4)", Runs.BUSY);
        Runs.changesNothing(States.TOWN, "link(4, 0)", Runs.BUSY);
        Runs.changesNothing(States.TOWN, "link(8, 16)", Runs.BUSY);
        Runs.sentence(2, "BAD; one of them is linked: BUSY");
        for (int a : LINKED_IN_TOWN) {
            Runs.changesNothing(States.TOWN, "link(" + a + ", " + a + ")", Runs.BAD);
            for (int n : Runs.outside(0, 19)) {
                Runs.changesNothing(States.TOWN, "link(" + a + ", " + n + ")", Runs.BAD);
                Runs.changesNothing(States.TOWN, "link(" + n + ", " + a + ")", Runs.BAD);
            }
        }
        Runs.sentence(2, "Else answers 0.");
        for (int a = 0; a < 20; a++) {
            for (int b = 0; b < 20; b++) {
                if (a != b) {
                    Runs.due(States.NEW, "link(" + a + ", " + b + ") 0", "linked(" + a + ") " + b,
                            "linked(" + b + ") " + a, "link(" + b + ", " + a + ") -4");
                }
            }
        }
        linkEveryPlace();
    }

    private static void linkEveryPlace() {
        List<String> all = new ArrayList<>();
        for (int a = 0; a < 10; a++) {
            Runs.due(all, "link(" + a + ", " + (19 - a) + ")", 0);
            all.add("link(" + a + ", " + (19 - a) + ")");
        }
        for (int a = 0; a < 20; a++) {
            Runs.due(all, "linked(" + a + ")", 19 - a);
            Runs.due(all, "link(" + a + ", " + (a + 1) % 20 + ")", Runs.BUSY);
        }
    }

    private static void promise3() {
        Runs.sentence(3, "a is not 0 .. 19: BAD");
        for (List<String> state : List.of(States.NEW, States.TOWN)) {
            Runs.range(state, "unlink(%d)", 0, 19);
        }
        Runs.sentence(3, "it is not linked: NONE");
        for (int a = 0; a < 20; a++) {
            Runs.changesNothing(States.NEW, "unlink(" + a + ")", Runs.NONE);
        }
        for (int a : ALONE_IN_TOWN) {
            Runs.changesNothing(States.TOWN, "unlink(" + a + ")", Runs.NONE);
        }
        Runs.sentence(3, "The place and the one to which it is linked are not linked any more.");
        Runs.due(States.TOWN, "unlink(0) 4", "unlink(0) -2", "unlink(4) -2", "linked(0) -2", "linked(4) -2",
                "linked(3) 8", "linked(17) 16", "link(4, 10) 0", "link(0, 11) 0");
        Runs.comesToTheSame(States.TOWN, "link(10, 11)", "unlink(10)");
        Runs.comesToTheSame(States.TOWN, "link(10, 11)", "unlink(11)");
        Runs.comesToTheSame(States.TOWN, "unlink(0)", "link(4, 0)");
        Runs.sentence(3, "Else answers the other one.");
        for (int a = 0; a < 20; a++) {
            for (int b = 0; b < 20; b++) {
                if (a != b) {
                    Runs.due(States.NEW, "link(" + a + ", " + b + ") 0", "unlink(" + a + ") " + b,
                            "link(" + a + ", " + b + ") 0", "unlink(" + b + ") " + a);
                }
            }
        }
    }

    private static void promise4() {
        Runs.sentence(4, "a is not 0 .. 19: BAD");
        for (List<String> state : List.of(States.NEW, States.TOWN)) {
            Runs.range(state, "linked(%d)", 0, 19);
        }
        Runs.sentence(4, "it is not linked: NONE");
        for (int a : ALONE_IN_TOWN) {
            Runs.changesNothing(States.TOWN, "linked(" + a + ")", Runs.NONE);
        }
        Runs.sentence(4, "The place to which a place is linked.");
        int[] other = {4, 8, 0, 3, 17, 16};
        for (int n = 0; n < other.length; n++) {
            Runs.changesNothing(States.TOWN, "linked(" + LINKED_IN_TOWN[n] + ")", other[n]);
        }
    }

    private static void promise5() {
        Runs.sentence(5, "s is not 0 .. 4, match not 0 .. 4095, action not 0 .. 5, or change not 0 .. 4095: BAD");
        for (List<String> state : List.of(States.NEW, States.TOWN)) {
            Runs.range(state, "add(%d, 65, 1, 130)", 0, 4);
            Runs.range(state, "add(2, %d, 1, 130)", 0, 4095);
            Runs.range(state, "add(2, 65, %d, 130)", 0, 5);
            Runs.range(state, "add(2, 65, 1, %d)", 0, 4095);
        }
        Runs.changesNothing(States.TOWN, "add(5, 4096, 6, 4096)", Runs.BAD);
        Runs.changesNothing(States.TOWN, "add(-1, -1, -1, -1)", Runs.BAD);
        Runs.sentence(5, "the list has six: FULL");
        for (int s = 0; s < 5; s++) {
            Runs.changesNothing(States.THIRTY, Runs.rule(s, 0, 0, 1, 0, 0), Runs.FULL);
        }
        Runs.changesNothing(States.TOWN, Runs.rule(0, 0, 0, 1, 0, 0), Runs.FULL);
        Runs.sentence(5, "BAD; the list has six: FULL");
        Runs.range(States.TOWN, "add(0, %d, 1, 130)", 0, 4095);
        Runs.range(States.TOWN, "add(0, 65, %d, 130)", 0, 5);
        Runs.range(States.TOWN, "add(0, 65, 1, %d)", 0, 4095);
        Runs.range(States.THIRTY, "add(%d, 65, 1, 130)", 0, 4);
        Runs.sentence(5, "Else answers its number in the list (0 the first).");
        for (int s = 0; s < 5; s++) {
            String call = Runs.rule(s, 0, 0, 1, 0, 0);
            Runs.due(States.NEW, call + " 0", call + " 1", call + " 2", call + " 3", call + " 4", call + " 5",
                    call + " -3", "drop(" + s + ", 2) 5", call + " 5", call + " -3");
            Runs.due(States.TOWN, call, s == 0 ? Runs.FULL : LISTS_OF_TOWN[s]);
        }
        Runs.sentence(5, "Adds a rule at the end of a switch's list.");
        Runs.due(Runs.run(Runs.rule(3, 1, 1, 1, 0, 0), Runs.rule(3, 0, 0, 2, 0, 0)),
                "end(32, 1) 113", "end(32, 2) 114", "deciding(3, 0) 32", "deciding(3, 1) 32");
        for (int s = 1; s < 5; s++) {
            String last = "drop(" + s + ", " + LISTS_OF_TOWN[s] + ")";
            Runs.comesToTheSame(States.TOWN, Runs.rule(s, 0, 0, 1, 63, 63), last);
        }
    }

    /** The numbers of match and change at their ends, each seen by what the rule does. */
    private static void codesOfPromise5() {
        Runs.sentence(5, "match is 64 * care + value, change is 64 * mask + bits.");
        Runs.due(Runs.run("add(1, 0, 1, 0)"), "deciding(1, 0)", 64);
        Runs.due(Runs.run("add(1, 63, 1, 0)"), "deciding(1, 0)", 64);
        Runs.due(Runs.run("add(1, 4032, 1, 0)"), "deciding(1, 0) 1", "nextArriving(24, 5, -1) 0");
        Runs.due(Runs.run("add(1, 4095, 1, 0)"), "deciding(1, 0) 1", "nextArriving(24, 5, -1) 63");
        Runs.due(Runs.run("add(1, 64, 1, 0)"), "deciding(1, 0) 32", "nextArriving(24, 5, -1) 0");
        Runs.due(Runs.run("add(1, 65, 1, 0)"), "deciding(1, 0) 32", "nextArriving(24, 5, -1) 1");
        int[][] made = {{0, 0, 0}, {0, 63, 63}, {63, 0, 0}, {63, 63, 63}, {4032, 63, 0}, {4032, 0, 0},
            {4095, 0, 63}, {4095, 63, 63}, {64, 63, 62}, {65, 0, 1}, {126, 1, 0}, {64 * 42 + 63, 5, 47}};
        for (int[] m : made) {
            Runs.due(Runs.run("add(1, 0, 1, " + m[0] + ")", "publish()"), "send(4, " + m[1] + ") 0", "tick() 0",
                    "where(0) 5", "header(0) " + m[2]);
        }
    }

    /** The rules of a list that SIX began, told by the headers that they make. */
    private static void dueOrder(List<String> run, int... want) {
        List<String> rows = new ArrayList<>(List.of("rules(0) " + want.length));
        for (int n = 0; n < want.length; n++) {
            rows.addAll(List.of("publish() 1", "send(3, 63) 0", "tick() 0", "header(0) " + want[n],
                    "drop(0, 0) " + (want.length - n - 1)));
        }
        Runs.due(run, rows.toArray(new String[0]));
    }

    private static int[] numbers(List<Integer> list) {
        return list.stream().mapToInt(n -> n).toArray();
    }

    private static void promise6() {
        Runs.sentence(6, "s is not 0 .. 4, or there is no such rule: BAD.");
        Runs.range(States.TOWN, "drop(%d, 0)", 0, 4);
        Runs.range(States.THIRTY, "drop(%d, 5)", 0, 4);
        for (int s = 0; s < 5; s++) {
            Runs.changesNothing(States.NEW, "drop(" + s + ", 0)", Runs.BAD);
            if (LISTS_OF_TOWN[s] > 0) {
                Runs.range(States.TOWN, "drop(" + s + ", %d)", 0, LISTS_OF_TOWN[s] - 1);
            }
        }
        for (int i : new int[] {-1, 0, 1, 5, 6, Runs.LEAST, Runs.GREATEST}) {
            Runs.changesNothing(States.TOWN, "drop(2, " + i + ")", Runs.BAD);
            Runs.changesNothing(States.TOWN, "drop(-1, " + i + ")", Runs.BAD);
            Runs.changesNothing(States.TOWN, "drop(5, " + i + ")", Runs.BAD);
        }
        Runs.sentence(6, "Takes rule i of a switch's list out; later ones move one up.");
        for (int i = 0; i < 6; i++) {
            List<Integer> left = new ArrayList<>(List.of(0, 1, 2, 3, 4, 5));
            left.remove(i);
            dueOrder(Runs.then(States.SIX, "drop(0, " + i + ")"), numbers(left));
        }
        Runs.sentence(6, "Else answers how many are left.");
        for (int s = 0; s < 5; s++) {
            String first = "drop(" + s + ", 0) ";
            Runs.due(States.THIRTY, "drop(" + s + ", 5) 5", "drop(" + s + ", 5) -1", "drop(" + s + ", 1) 4",
                    first + "3", first + "2", first + "1", first + "0", first + "-1", "rules(" + s + ") 0");
            Runs.due(States.THIRTY, "drop(" + s + ", 0) 5", "rules(" + (s + 1) % 5 + ") 6",
                    "rules(" + (s + 4) % 5 + ") 6");
        }
    }

    private static void promise7() {
        Runs.sentence(7, "s is not 0 .. 4, or there is no rule i, or no rule j: BAD.");
        Runs.range(States.TOWN, "move(%d, 0, 0)", 0, 4);
        Runs.range(States.THIRTY, "move(%d, 5, 0)", 0, 4);
        for (int s = 0; s < 5; s++) {
            int last = LISTS_OF_TOWN[s] - 1;
            Runs.changesNothing(States.NEW, "move(" + s + ", 0, 0)", Runs.BAD);
            if (last >= 0) {
                Runs.range(States.TOWN, "move(" + s + ", %d, 0)", 0, last);
                Runs.range(States.TOWN, "move(" + s + ", 0, %d)", 0, last);
                Runs.range(States.TOWN, "move(" + s + ", %d, " + last + ")", 0, last);
            }
        }
        for (int i : new int[] {-1, 0, 5, 6, Runs.LEAST, Runs.GREATEST}) {
            Runs.changesNothing(States.TOWN, "move(2, " + i + ", " + i + ")", Runs.BAD);
            Runs.changesNothing(States.TOWN, "move(5, " + i + ", " + i + ")", Runs.BAD);
        }
        for (int i : Runs.outside(0, 5)) {
            Runs.changesNothing(States.TOWN, "move(0, " + i + ", " + i + ")", Runs.BAD);
        }
        Runs.sentence(7, "Moves rule i of a switch's list to place j of the list; the others keep their order.");
        for (int i = 0; i < 6; i++) {
            for (int j = 0; j < 6; j++) {
                List<Integer> list = new ArrayList<>(List.of(0, 1, 2, 3, 4, 5));
                list.add(j, list.remove(i));
                dueOrder(Runs.then(States.SIX, "move(0, " + i + ", " + j + ")"), numbers(list));
            }
        }
        Runs.comesToTheSame(States.TOWN, "move(0, 0, 5)", "move(0, 5, 0)");
        Runs.comesToTheSame(States.TOWN, "move(4, 2, 0)", "move(4, 0, 2)");
        Runs.sentence(7, "Else answers 0.");
        for (int s = 0; s < 5; s++) {
            for (int i = 0; i < 6; i++) {
                Runs.due(States.THIRTY, "move(" + s + ", " + i + ", " + (5 - i) + ")", 0);
            }
        }
        for (int i = 0; i < 6; i++) {
            Runs.changesNothing(States.TOWN, "move(0, " + i + ", " + i + ")", 0);
        }
        Runs.changesNothing(States.TOWN, "move(1, 0, 0)", 0);
    }

    private static void promise8() {
        Runs.sentence(8, "BAD if s is not 0 .. 4.");
        for (List<String> state : List.of(States.NEW, States.TOWN, States.THIRTY)) {
            Runs.range(state, "rules(%d)", 0, 4);
        }
        Runs.sentence(8, "How many rules a switch's list in the staged table has");
        for (int s = 0; s < 5; s++) {
            Runs.changesNothing(States.NEW, "rules(" + s + ")", 0);
            Runs.changesNothing(States.TOWN, "rules(" + s + ")", LISTS_OF_TOWN[s]);
            Runs.changesNothing(States.THIRTY, "rules(" + s + ")", 6);
            Runs.due(Runs.then(States.THIRTY, "drop(" + s + ", 0)"), "rules(" + s + ")", 5);
        }
    }

    private static void promise9() {
        Runs.sentence(9, "If three tables are kept, and a packet that is treated by the active one is in flight: "
                + "BUSY.");
        Runs.changesNothing(Runs.then(States.TOWN, "send(19, 1)"), "publish()", Runs.BUSY);
        Runs.changesNothing(Runs.then(States.TOWN, "send(9, 1)"), "publish()", Runs.BUSY);
        Runs.changesNothing(States.CROWD, "publish()", Runs.BUSY);
        Runs.changesNothing(Runs.then(States.CROWD, "revert()"), "publish()", Runs.BUSY);
        Runs.due(Runs.then(States.CROWD, "publish()"), "publish()", Runs.BUSY);
        // Three are kept, but no packet is treated by the active one.
        Runs.due(States.TOWN, "publish() 3", "publish() 3", "publish() 3", "send(19, 1) 0", "publish() -4");
        // One is treated by the active one, but two are kept, or one.
        Runs.due(States.ring(), "send(2, 0) 0", "publish() 2", "send(2, 0) 1", "publish() 3", "send(2, 0) 2",
                "publish() -4");
        // A packet of the active table that has ended does not count, however it has ended.
        Runs.due(Runs.then(States.TOWN, "send(19, 8)"), "publish() -4", "tick() 2", "state(0) 2", "publish() 3");
        Runs.due(Runs.then(States.TOWN, "send(19, 2)"), "publish() -4", "tick() 2", "state(0) 3", "publish() 3");
        // Packet 1 is lost at its treatment 16, after five more; then its table is not kept.
        Runs.due(Runs.then(Runs.then(States.TOWN, "send(19, 1)"), Runs.times(4, "tick()")),
                "publish() -4", "tick() 2", "state(1) 4", "publish() 3", "publish() 3", "send(19, 1) 1",
                "publish() -4");
        Runs.sentence(9, "Else answers how many tables are kept then.");
        Runs.due(States.NEW, "publish() 1", "publish() 1", "send(0, 0) 0", "publish() 2", "publish() 2", "tick() 0",
                "publish() 1");
        Runs.due(Runs.then(States.ring(), Runs.times(8, "send(2, 0)")), "publish()", 2);
        Runs.due(Runs.then(States.TOWN, Runs.times(5, "tick()")), "state(1) 4", "publish() 2");
        Runs.due(Runs.then(States.TOWN, Runs.times(13, "tick()")), "state(4) 4", "publish() 1");
        Runs.due(Runs.then(States.CROWD, Runs.times(13, "tick()")), "state(0) 1", "publish() 2");
        Runs.due(Runs.then(States.CROWD, Runs.times(16, "tick()")), "state(0) 4", "publish() 1");
        Runs.sentence(9, "The active table becomes what the staged one is, as a new table.");
        // The table is new even if its rules are the same, and later changes of the staged one are not its own.
        Runs.due(States.ring(), "send(2, 0) 0", "revert() 1", "publish() 2");
        Runs.due(States.THIRTY, "end(0, 0) 100", "drop(0, 0) 5", "end(0, 0) 100", "end(20, 0) 1", "publish() 1",
                "end(0, 0) 1", "add(0, 4032, 3, 0) 5", "end(0, 0) 1", "end(20, 0) 103");
        for (int place = 0; place < 20; place++) {
            Runs.due(Runs.then(States.TOWN, "publish()"), "differing(" + place + ")", 0);
        }
        Runs.comesToTheSame(Runs.then(States.TOWN, "publish()"), "publish()");
    }

    private static void promise10() {
        Runs.sentence(10, "The staged table becomes what the active one is.");
        for (int place = 0; place < 20; place++) {
            Runs.due(Runs.then(States.TOWN, "revert()"), "differing(" + place + ")", 0);
        }
        Runs.comesToTheSame(Runs.then(States.TOWN, "revert()"), "revert()");
        Runs.comesToTheSame(Runs.then(States.TOWN, "publish()"), "revert()");
        Runs.comesToTheSame(Runs.then(States.TOWN, "revert()"), "drop(0, 1)", Runs.rule(0, 0, 0, 4, 0, 0), "revert()");
        Runs.due(Runs.then(States.THIRTY, "revert()"), "drop(0, 0) 5", "end(0, 0) 100", "end(20, 0) 1");
        Runs.sentence(10, "Answers how many rules it has for all switches together.");
        Runs.due(States.NEW, "revert() 0", "add(4, 0, 0, 0) 0", "revert() 0", "rules(4) 0");
        Runs.due(States.TOWN, "revert() 7", "rules(0) 2", "rules(1) 1", "rules(2) 0", "rules(3) 1", "rules(4) 3");
        Runs.due(States.THIRTY, "revert() 30", "drop(4, 5) 5", "revert() 30", "rules(4) 6");
        Runs.due(States.SIX, "revert() 0", "rules(0) 0");
        for (int s = 0; s < 5; s++) {
            Runs.due(Runs.run(Runs.rule(s, 0, 0, 0, 0, 0), "publish()", "drop(" + s + ", 0)"), "revert() 1",
                    "rules(" + s + ") 1");
        }
    }

    private static void promise11() {
        Runs.sentence(11, "place is not 0 .. 19, or header not 0 .. 63: BAD");
        for (List<String> state : List.of(States.NEW, States.TOWN)) {
            Runs.range(state, "send(%d, 5)", 0, 19);
            Runs.range(state, "send(19, %d)", 0, 63);
        }
        Runs.changesNothing(States.TOWN, "send(-1, -1)", Runs.BAD);
        Runs.changesNothing(States.TOWN, "send(20, 64)", Runs.BAD);
        Runs.sentence(11, "the place is linked: BUSY");
        for (int a : LINKED_IN_TOWN) {
            Runs.changesNothing(States.TOWN, "send(" + a + ", 5)", Runs.BUSY);
            Runs.due(Runs.then(States.TOWN, "unlink(" + a + ")"), "send(" + a + ", 5)", 0);
        }
        for (int a : ALONE_IN_TOWN) {
            Runs.due(States.TOWN, "send(" + a + ", 5)", 0);
            Runs.due(Runs.then(States.TOWN, "link(" + a + ", " + (a == 1 ? 2 : 1) + ")"), "send(" + a + ", 5)",
                    Runs.BUSY);
        }
        Runs.sentence(11, "eight packets are in flight: FULL");
        for (int a : ALONE_IN_TOWN) {
            Runs.changesNothing(States.CROWD, "send(" + a + ", 5)", Runs.FULL);
        }
        Runs.due(States.NEW, "send(0, 0) 0", "send(0, 0) 1", "send(0, 0) 2", "send(0, 0) 3", "send(0, 0) 4",
                "send(0, 0) 5", "send(0, 0) 6", "send(0, 0) 7", "send(0, 0) -3", "tick() 0", "send(0, 0) 0");
        orderOfPromise11();
        numbersOfPromise11();
    }

    private static void orderOfPromise11() {
        Runs.sentence(11, "BAD; the place is linked: BUSY");
        for (int a : LINKED_IN_TOWN) {
            for (int n : Runs.outside(0, 63)) {
                Runs.changesNothing(States.TOWN, "send(" + a + ", " + n + ")", Runs.BAD);
            }
        }
        Runs.sentence(11, "BUSY; eight packets are in flight: FULL");
        for (int a : LINKED_IN_TOWN) {
            Runs.changesNothing(States.CROWD, "send(" + a + ", 5)", Runs.BUSY);
            Runs.changesNothing(States.CROWD, "send(" + a + ", 64)", Runs.BAD);
            Runs.changesNothing(States.CROWD, "send(" + a + ", -1)", Runs.BAD);
        }
        Runs.range(States.CROWD, "send(%d, 5)", 0, 19);
        Runs.range(States.CROWD, "send(19, %d)", 0, 63);
    }

    private static void numbersOfPromise11() {
        Runs.sentence(11, "Else answers its number, the least that no packet in flight has");
        Runs.due(States.TOWN, "send(19, 1) 0", "send(19, 1) 2", "send(19, 1) 3", "send(19, 1) 5", "send(19, 1) 6",
                "send(19, 1) 7", "send(19, 1) -3");
        for (int k = 0; k < 8; k++) {
            // Only packet k has the header that is dropped at once.
            List<String> run = new ArrayList<>(List.of("link(0, 1)", Runs.rule(0, 1, 1, 0, 0, 0), "publish()"));
            for (int n = 0; n < 8; n++) {
                run.add("send(2, " + (n == k ? 0 : 1) + ")");
            }
            Runs.due(run, "send(2, 1) -3", "tick() 7", "state(" + k + ") 3", "send(2, 1) " + k, "send(2, 1) -3");
        }
        Runs.sentence(11, "what is known of an earlier packet with this number is forgotten.");
        for (int ended = 0; ended < 3; ended++) {
            // Number 0 was lost; with it taken number 2, which was delivered, and then 3, which was dropped.
            int k = new int[] {0, 2, 3}[ended];
            List<String> run = Runs.then(States.TOWN, Runs.times(ended, "send(19, 1)"));
            Runs.due(run, "send(14, 33) " + k, "state(" + k + ") 1", "where(" + k + ") 14", "header(" + k + ") 33",
                    "tick() " + (ended + 2), "state(" + k + ") 2", "where(" + k + ") 14", "header(" + k + ") 33");
        }
        List<String> again = Runs.then(Runs.then(States.ring(), "send(2, 0)"), Runs.times(16, "tick()"));
        Runs.due(Runs.then(Runs.then(again, "send(3, 7)"), Runs.times(14, "tick()")), "tick() 1", "state(0) 1",
                "tick() 0", "state(0) 4", "header(0) 7");
        Runs.sentence(11, "Sends a packet, which has come in at a place.");
        for (int a = 0; a < 20; a++) {
            for (int h : new int[] {0, 63}) {
                Runs.due(States.NEW, "send(" + a + ", " + h + ") 0", "state(0) 1", "where(0) " + a, "header(0) " + h);
            }
        }
    }

    private static void promise12() {
        Runs.sentence(12, "Every packet in flight is treated once.");
        Runs.due(States.ring(), "send(2, 0) 0", "where(0) 2", "tick() 1", "where(0) 1");
        Runs.due(Runs.then(States.countdown(3), "send(2, 3)", "send(2, 2)"), "tick() 2", "header(0) 2", "header(1) 1",
                "tick() 2", "header(0) 1", "header(1) 0", "tick() 1", "state(0) 1", "state(1) 2", "header(0) 0",
                "tick() 0", "state(0) 2");
        Runs.due(Runs.then(States.countdown(3), Runs.times(8, "send(2, 31)")), "tick() 8", "header(0) 30",
                "header(1) 30", "header(2) 30", "header(3) 30", "header(4) 30", "header(5) 30", "header(6) 30",
                "header(7) 30");
        // A lost, a delivered and a dropped packet that would go on if they were treated again.
        Runs.due(Runs.then(Runs.then(States.countdown(3), "send(2, 16)"), Runs.times(16, "tick()")), "state(0) 4",
                "tick() 0", "state(0) 4", "where(0) 1", "header(0) 0");
        Runs.due(Runs.run(Runs.rule(0, 1, 0, 1, 1, 1), Runs.rule(0, 1, 1, 2, 1, 0), "publish()"), "send(3, 0) 0",
                "tick() 0", "state(0) 2", "where(0) 1", "header(0) 1", "tick() 0", "where(0) 1", "header(0) 1");
        Runs.due(States.NEW, "send(3, 0) 0", "tick() 0", "state(0) 3", Runs.rule(0, 0, 0, 1, 1, 1) + " 0",
                "publish() 1", "tick() 0", "state(0) 3", "where(0) 3", "header(0) 0");
        // With none in flight nothing is treated: those that have ended stay as they are.
        Runs.changesNothing(States.NEW, "tick()", 0);
        Runs.changesNothing(Runs.then(States.TOWN, Runs.times(13, "tick()")), "tick()", 0);
        Runs.sentence(12, "Answers how many are in flight then.");
        for (int sent = 0; sent <= 8; sent++) {
            List<String> run = Runs.then(States.ring(), Runs.times(sent, "send(2, 0)"));
            Runs.due(run, "tick()", sent);
            Runs.due(Runs.then(run, Runs.times(14, "tick()")), "tick() " + sent, "tick() 0", "tick() 0");
        }
        Runs.due(Runs.then(States.TOWN, Runs.times(3, "tick()")), "tick() 2", "tick() 1", "tick() 1");
        Runs.due(Runs.then(States.TOWN, Runs.times(11, "tick()")), "tick() 1", "tick() 0");
        Runs.due(Runs.then(States.NEW, Runs.times(8, "send(0, 0)")), "tick()", 0);
    }

    private static void promise13() {
        Runs.sentence(13, "k is not 0 .. 7: BAD.");
        for (List<String> state : List.of(States.NEW, States.TOWN, States.CROWD)) {
            Runs.range(state, "state(%d)", 0, 7);
        }
        Runs.sentence(13, "0 if there was no packet with the number yet, 1 if it is in flight, 2 if it was delivered, "
                + "3 if it was dropped, 4 if it was lost.");
        int[] inTown = {4, 1, 2, 3, 1, 0, 0, 0};
        for (int k = 0; k < 8; k++) {
            Runs.changesNothing(States.NEW, "state(" + k + ")", 0);
            Runs.changesNothing(States.TOWN, "state(" + k + ")", inTown[k]);
            Runs.changesNothing(States.CROWD, "state(" + k + ")", 1);
        }
    }

    private static void promise14() {
        Runs.sentence(14, "k is not 0 .. 7: BAD");
        for (List<String> state : List.of(States.NEW, States.TOWN, States.CROWD)) {
            Runs.range(state, "where(%d)", 0, 7);
        }
        Runs.sentence(14, "there was none with the number: NONE.");
        for (int k = 0; k < 8; k++) {
            Runs.changesNothing(States.NEW, "where(" + k + ")", Runs.NONE);
            if (k > 4) {
                Runs.changesNothing(States.TOWN, "where(" + k + ")", Runs.NONE);
            }
        }
        Runs.due(States.NEW, "where(0) -2", "send(0, 0) 0", "where(0) 0", "where(1) -2", "tick() 0", "where(0) 0");
        Runs.sentence(14, "The place at which a packet was delivered, or, of any other, has come in last.");
        int[] inTown = {17, 16, 18, 19, 17};
        for (int k = 0; k < 5; k++) {
            Runs.changesNothing(States.TOWN, "where(" + k + ")", inTown[k]);
        }
        // The least and the greatest place, of a packet that was delivered and of one that was dropped.
        Runs.due(Runs.run("add(0, 0, 0, 0)", "publish()"), "send(3, 0) 0", "tick() 0", "where(0) 0");
        Runs.due(Runs.run("add(4, 0, 3, 0)", "publish()"), "send(16, 0) 0", "tick() 0", "where(0) 19");
        Runs.due(States.NEW, "send(0, 0) 0", "send(19, 0) 1", "tick() 0", "where(0) 0", "where(1) 19");
    }

    private static void promise15() {
        Runs.sentence(15, "k is not 0 .. 7: BAD");
        for (List<String> state : List.of(States.NEW, States.TOWN, States.CROWD)) {
            Runs.range(state, "header(%d)", 0, 7);
        }
        Runs.sentence(15, "there was none with the number: NONE.");
        for (int k = 0; k < 8; k++) {
            Runs.changesNothing(States.NEW, "header(" + k + ")", Runs.NONE);
            if (k > 4) {
                Runs.changesNothing(States.TOWN, "header(" + k + ")", Runs.NONE);
            }
        }
        Runs.due(States.NEW, "header(0) -2", "send(0, 0) 0", "header(0) 0", "header(1) -2", "tick() 0", "header(0) 0");
        Runs.sentence(15, "The header that a packet has, or had at its end (before the treatment in which it was "
                + "dropped).");
        int[] inTown = {1, 3, 12, 2, 37};
        for (int k = 0; k < 5; k++) {
            Runs.changesNothing(States.TOWN, "header(" + k + ")", inTown[k]);
        }
        Runs.due(Runs.run("add(0, 0, 4, 4095)", "publish()"), "send(0, 0) 0", "tick() 0", "header(0) 0");
        Runs.due(Runs.run("add(0, 0, 4, 4032)", "publish()"), "send(0, 63) 0", "tick() 0", "header(0) 63");
        Runs.due(Runs.run("add(0, 0, 0, 4032)", "publish()"), "send(0, 63) 0", "tick() 0", "header(0) 0");
        Runs.due(Runs.run("add(0, 0, 0, 4095)", "publish()"), "send(0, 0) 0", "tick() 0", "header(0) 63");
    }

    private static void promise16() {
        Runs.sentence(16, "from is not 0 .. 39, or header not 0 .. 63: BAD.");
        for (List<String> state : List.of(States.NEW, States.TOWN)) {
            Runs.range(state, "end(%d, 1)", 0, 39);
            Runs.range(state, "end(19, %d)", 0, 63);
            Runs.range(state, "end(39, %d)", 0, 63);
        }
        Runs.changesNothing(States.TOWN, "end(-1, -1)", Runs.BAD);
        Runs.changesNothing(States.TOWN, "end(40, 64)", Runs.BAD);
        Runs.sentence(16, "100 + the place at which the packet with this header is delivered; 1 if it is dropped, "
                + "2 if it is lost.");
        for (int a = 0; a < 20; a++) {
            List<String> run = Runs.run(Runs.rule(a / 4, 0, 0, a % 4, 0, 0), "publish()");
            for (int h : new int[] {0, 63}) {
                Runs.due(run, "end(" + a + ", " + h + ")", 100 + a);
                Runs.due(run, "end(" + (20 + a) + ", " + h + ")", 100 + a);
                Runs.due(States.NEW, "end(" + a + ", " + h + ")", 1);
                Runs.due(States.NEW, "end(" + (20 + a) + ", " + h + ")", 1);
            }
        }
        Runs.changesNothing(States.TOWN, "end(19, 8)", 118);
        Runs.changesNothing(States.TOWN, "end(19, 2)", 1);
        Runs.changesNothing(States.TOWN, "end(19, 63)", 2);
        Runs.changesNothing(States.TOWN, "end(32, 40)", 115);
        for (int from : new int[] {1, 2, 21, 22}) {
            Runs.due(States.countdown(3), "end(" + from + ", 15) 103", "end(" + from + ", 16) 2",
                    "end(" + from + ", 47) 103", "end(" + from + ", 48) 2");
            Runs.due(States.countdown(4), "end(" + from + ", 15) 1", "end(" + from + ", 16) 2");
        }
    }

    private static void promise17() {
        Runs.sentence(17, "from is not 0 .. 39, or to not 0 .. 19: BAD.");
        for (List<String> state : List.of(States.NEW, States.TOWN)) {
            Runs.range(state, "arriving(%d, 18)", 0, 39);
            Runs.range(state, "arriving(19, %d)", 0, 19);
            Runs.range(state, "arriving(39, %d)", 0, 19);
        }
        Runs.changesNothing(States.TOWN, "arriving(-1, -1)", Runs.BAD);
        Runs.changesNothing(States.TOWN, "arriving(40, 20)", Runs.BAD);
        Runs.sentence(17, "For how many headers (of 0 .. 63) the packet is delivered at a place.");
        for (int a = 0; a < 20; a++) {
            String from = "arriving(" + (a - a % 4) + ", " + a + ") ";
            Runs.due(States.NEW, from + "0");
            Runs.due(Runs.run(Runs.rule(a / 4, 0, 0, a % 4, 0, 0), "publish()"), from + "64");
            Runs.due(Runs.run(Runs.rule(a / 4, 63, 0, a % 4, 0, 0), "publish()"), from + "1");
            Runs.due(Runs.run(Runs.rule(a / 4, 63, 63, a % 4, 0, 0), "publish()"), from + "1");
        }
        Runs.changesNothing(States.TOWN, "arriving(19, 18)", 16);
        Runs.changesNothing(States.TOWN, "arriving(32, 14)", 32);
        Runs.changesNothing(States.TOWN, "arriving(32, 15)", 32);
        Runs.changesNothing(States.TOWN, "arriving(12, 14)", 64);
        Runs.due(States.countdown(3), "arriving(1, 3) 32", "arriving(21, 3) 32", "arriving(1, 0) 0");
    }

    private static void promise18() {
        Runs.sentence(18, "from is not 0 .. 39, or to not 0 .. 19: BAD");
        for (List<String> state : List.of(States.NEW, States.TOWN)) {
            Runs.range(state, "nextArriving(%d, 18, 5)", 0, 39);
            Runs.range(state, "nextArriving(19, %d, 5)", 0, 19);
            Runs.range(state, "nextArriving(39, %d, 5)", 0, 19);
        }
        Runs.sentence(18, "BAD; there is none: NONE.");
        for (int after : new int[] {63, 64, Runs.GREATEST}) {
            Runs.changesNothing(States.TOWN, "nextArriving(40, 18, " + after + ")", Runs.BAD);
            Runs.changesNothing(States.TOWN, "nextArriving(-1, 18, " + after + ")", Runs.BAD);
            Runs.changesNothing(States.TOWN, "nextArriving(19, 20, " + after + ")", Runs.BAD);
            Runs.changesNothing(States.TOWN, "nextArriving(19, -1, " + after + ")", Runs.BAD);
        }
        Runs.sentence(18, "there is none: NONE.");
        Runs.changesNothing(States.NEW, "nextArriving(0, 0, -1)", Runs.NONE);
        Runs.changesNothing(States.TOWN, "nextArriving(19, 18, 60)", Runs.NONE);
        Runs.changesNothing(States.TOWN, "nextArriving(12, 14, 63)", Runs.NONE);
        Runs.changesNothing(States.TOWN, "nextArriving(12, 14, " + Runs.GREATEST + ")", Runs.NONE);
        Runs.changesNothing(States.TOWN, "nextArriving(12, 15, " + Runs.LEAST + ")", Runs.NONE);
        Runs.sentence(18, "The least header greater than after (any int) for which it is.");
        int[][] all = {{Runs.LEAST, 0}, {Runs.LEAST + 1, 0}, {-2, 0}, {-1, 0}, {0, 1}, {1, 2}, {31, 32}, {61, 62},
            {62, 63}, {63, Runs.NONE}, {64, Runs.NONE}, {Runs.GREATEST - 1, Runs.NONE}, {Runs.GREATEST, Runs.NONE}};
        for (int[] a : all) {
            Runs.changesNothing(States.TOWN, "nextArriving(12, 14, " + a[0] + ")", a[1]);
        }
        for (int to = 0; to < 20; to++) {
            Runs.due(States.TOWN, "nextArriving(12, " + to + ", " + Runs.LEAST + ")", to == 14 ? 0 : Runs.NONE);
        }
        // At place 18 arrive the headers that 4 divides, at place 15 those from 32 on.
        int[][] some = {{Runs.LEAST, 0}, {-1, 0}, {0, 4}, {3, 4}, {4, 8}, {59, 60}, {60, Runs.NONE}};
        for (int[] a : some) {
            Runs.due(States.TOWN, "nextArriving(39, 18, " + a[0] + ")", a[1]);
        }
        Runs.due(States.TOWN, "nextArriving(32, 15, -1) 32", "nextArriving(32, 15, 31) 32",
                "nextArriving(32, 15, 32) 33", "nextArriving(32, 14, 30) 31", "nextArriving(32, 14, 31) -2");
        Runs.due(States.countdown(3), "nextArriving(1, 3, 14) 15", "nextArriving(1, 3, 15) 32",
                "nextArriving(1, 3, 47) -2");
    }

    private static void promise19() {
        Runs.sentence(19, "from is not 0 .. 39, or kind not 0 or 1: BAD.");
        for (List<String> state : List.of(States.NEW, States.TOWN)) {
            Runs.range(state, "ending(%d, 0)", 0, 39);
            Runs.range(state, "ending(%d, 1)", 0, 39);
            Runs.range(state, "ending(19, %d)", 0, 1);
            Runs.range(state, "ending(39, %d)", 0, 1);
        }
        Runs.changesNothing(States.TOWN, "ending(-1, -1)", Runs.BAD);
        Runs.changesNothing(States.TOWN, "ending(40, 2)", Runs.BAD);
        Runs.sentence(19, "For how many headers it is dropped (kind 0), or lost (kind 1).");
        Runs.due(States.NEW, "ending(0, 0) 64", "ending(0, 1) 0", "ending(39, 0) 64", "ending(39, 1) 0");
        Runs.due(States.ring(), "ending(2, 0) 0", "ending(2, 1) 64", "ending(22, 0) 0", "ending(22, 1) 64");
        Runs.due(States.countdown(3), "ending(1, 0) 0", "ending(1, 1) 32");
        Runs.due(States.countdown(4), "ending(1, 0) 32", "ending(1, 1) 32");
        Runs.changesNothing(States.TOWN, "ending(19, 0)", 16);
        Runs.changesNothing(States.TOWN, "ending(39, 1)", 32);
        Runs.changesNothing(States.TOWN, "ending(12, 0)", 0);
    }

    private static void promise20() {
        Runs.sentence(20, "from is not 0 .. 39, or s not 0 .. 4: BAD.");
        for (List<String> state : List.of(States.NEW, States.TOWN)) {
            Runs.range(state, "visiting(%d, 4)", 0, 39);
            Runs.range(state, "visiting(19, %d)", 0, 4);
            Runs.range(state, "visiting(39, %d)", 0, 4);
        }
        Runs.changesNothing(States.TOWN, "visiting(-1, -1)", Runs.BAD);
        Runs.changesNothing(States.TOWN, "visiting(40, 5)", Runs.BAD);
        Runs.sentence(20, "the first place included");
        for (int from = 0; from < 40; from++) {
            for (int s = 0; s < 5; s++) {
                Runs.due(States.NEW, "visiting(" + from + ", " + s + ")", from % 20 / 4 == s ? 64 : 0);
            }
        }
        Runs.sentence(20, "before it has been treated 16 times");
        // A header with the low bits n comes in at place 8 when it has been treated n + 1 times.
        List<String> on = Runs.then(States.countdown(3), "link(3, 8)");
        Runs.due(on, "visiting(1, 2) 30", "visiting(21, 2) 30", "visiting(1, 0) 64", "visiting(1, 1) 0");
        List<String> further = Runs.then(on, "link(9, 12)", Runs.rule(2, 0, 0, 1, 0, 0), "publish()");
        Runs.due(further, "visiting(1, 2) 30", "visiting(1, 3) 28", "visiting(21, 3) 28", "visiting(8, 3) 64");
        Runs.sentence(20, "For how many headers it comes in at one of the places of a switch at some time");
        Runs.changesNothing(States.TOWN, "visiting(19, 4)", 64);
        // By the active table header 0 goes to switch 1 and back to 0, then with the odd ones to switch 2.
        Runs.changesNothing(States.TOWN, "visiting(2, 1)", 1);
        Runs.changesNothing(States.TOWN, "visiting(2, 2)", 33);
        Runs.changesNothing(States.TOWN, "visiting(2, 3)", 0);
        for (int port = 0; port < 4; port++) {
            List<String> run = Runs.run("link(0, " + (16 + port) + ")", Runs.rule(0, 63, 63, 0, 0, 0));
            Runs.due(run, "visiting(22, 4) 1", "visiting(2, 4) 0");
        }
        visitingByHeader();
        // Of those that are delivered at once, none comes in at another switch.
        Runs.due(Runs.run("link(1, 4)", Runs.rule(0, 0, 0, 1, 0, 0), Runs.rule(1, 0, 0, 1, 0, 0)),
                "visiting(20, 1) 64", "unlink(1) 4", "visiting(20, 1) 0");
        for (int a = 0; a < 20; a++) {
            for (int s = 0; s < 5; s++) {
                Runs.due(Runs.run(Runs.rule(a / 4, 0, 0, 5, 0, 0), "publish()"), "visiting(" + a + ", " + s + ")",
                        a / 4 == s ? 64 : 0);
            }
        }
    }

    /** The headers go up from switch to switch, out at the last port and in at the first, and fewer at each. */
    private static void visitingByHeader() {
        List<String> run = new ArrayList<>();
        for (int s = 0; s < 4; s++) {
            run.add("link(" + (4 * s + 3) + ", " + (4 * s + 4) + ")");
            // Only the headers with bit s go on, and bit s + 1 is turned into its opposite.
            run.add(Runs.rule(s, 3 << s, 3 << s, 3, 2 << s, 0));
            run.add(Runs.rule(s, 3 << s, 1 << s, 3, 2 << s, 2 << s));
            run.add(Runs.rule(s, 0, 0, 1, 0, 0));
        }
        run.add("publish()");
        for (int from : new int[] {2, 22}) {
            for (int s = 0; s < 5; s++) {
                Runs.due(run, "visiting(" + from + ", " + s + ")", 64 >> s);
            }
        }
        for (int s = 0; s < 5; s++) {
            Runs.due(run, "visiting(12, " + s + ")", s < 3 ? 0 : s == 3 ? 64 : 32);
        }
        // The header that the first switch makes is the one, of all 64, that the second sends on.
        for (int h : new int[] {0, 5, 62, 63}) {
            Runs.due(Runs.run("link(3, 9)", "link(11, 18)", Runs.rule(0, 0, 0, 3, 63, h),
                    Runs.rule(2, 63, h, 3, 0, 0)), "visiting(20, 2) 64", "visiting(20, 4) 64", "visiting(28, 4) 1");
        }
    }

    private static void promise21() {
        Runs.sentence(21, "place is not 0 .. 19: BAD.");
        for (List<String> state : List.of(States.NEW, States.TOWN)) {
            Runs.range(state, "differing(%d)", 0, 19);
        }
        Runs.changesNothing(States.TOWN, "differing(39)", Runs.BAD);
        Runs.sentence(21, "For how many headers end(place, h) and end(place + 20, h) are not the same.");
        for (int a = 0; a < 20; a++) {
            Runs.due(States.NEW, "differing(" + a + ")", 0);
            Runs.due(Runs.run(Runs.rule(a / 4, 0, 0, a % 4, 0, 0)), "differing(" + a + ")", 64);
            Runs.due(Runs.run(Runs.rule(a / 4, 63, 0, a % 4, 0, 0)), "differing(" + a + ")", 1);
            Runs.due(Runs.run(Runs.rule(a / 4, 63, 63, a % 4, 0, 0)), "differing(" + a + ")", 1);
        }
        Runs.changesNothing(States.TOWN, "differing(12)", 32);
        Runs.changesNothing(States.TOWN, "differing(19)", 0);
        // Dropped and lost are not the same; another header at the same place is.
        Runs.due(States.countdown(3), "drop(0, 5) 5", "differing(1) 32", "add(0, 0, 4, 0) 5", "differing(1) 32",
                "drop(0, 5) 5", "drop(0, 4) 4", "differing(1) 64");
        Runs.due(Runs.run(Runs.rule(0, 0, 0, 1, 0, 0), "publish()", "drop(0, 0)", Runs.rule(0, 0, 0, 1, 63, 63)),
                "differing(0)", 0);
    }

    private static void promise22() {
        Runs.sentence(22, "s is not 0 .. 4, or there is no such rule: BAD.");
        rangesOfARule("deciding");
        Runs.sentence(22, "For how many headers rule i of a switch's list in the staged table decides.");
        int[][] inTown = {{1, 32, 16, 8, 4, 3}, {64}, {}, {32, 32}, {32, 16, 16}};
        for (int s = 0; s < 5; s++) {
            for (int i = 0; i < inTown[s].length; i++) {
                Runs.changesNothing(States.TOWN, "deciding(" + s + ", " + i + ")", inTown[s][i]);
            }
        }
        for (int i = 0; i < 6; i++) {
            Runs.due(States.SIX, "deciding(0, " + i + ")", i == 0 ? 64 : 0);
            Runs.due(States.THIRTY, "deciding(4, " + i + ")", 1);
        }
        Runs.due(States.SIX, "publish() 1", "drop(0, 0) 5", "deciding(0, 0) 64", "deciding(0, 5) -1");
    }

    /** For the two questions of a rule of a staged list. */
    private static void rangesOfARule(String name) {
        Runs.range(States.TOWN, name + "(%d, 0)", 0, 4);
        Runs.range(States.THIRTY, name + "(%d, 5)", 0, 4);
        for (int s = 0; s < 5; s++) {
            Runs.changesNothing(States.NEW, name + "(" + s + ", 0)", Runs.BAD);
            if (LISTS_OF_TOWN[s] > 0) {
                Runs.range(States.TOWN, name + "(" + s + ", %d)", 0, LISTS_OF_TOWN[s] - 1);
            }
        }
        for (int i : new int[] {-1, 0, 1, 5, 6, Runs.LEAST, Runs.GREATEST}) {
            Runs.changesNothing(States.TOWN, name + "(2, " + i + ")", Runs.BAD);
            Runs.changesNothing(States.TOWN, name + "(-1, " + i + ")", Runs.BAD);
            Runs.changesNothing(States.TOWN, name + "(5, " + i + ")", Runs.BAD);
        }
        // The rule was in the list, and still is in the active table's.
        Runs.changesNothing(Runs.then(States.THIRTY, "drop(3, 0)"), name + "(3, 5)", Runs.BAD);
    }

    private static void promise23() {
        Runs.sentence(23, "s is not 0 .. 4, or there is no such rule: BAD.");
        rangesOfARule("needless");
        Runs.sentence(23, "every packet with any header that has come in at any port of the switch would be treated "
                + "there once as it is with the rule");
        for (int s = 0; s < 5; s++) {
            for (int i = 0; i < LISTS_OF_TOWN[s]; i++) {
                Runs.changesNothing(States.TOWN, "needless(" + s + ", " + i + ")", 0);
            }
            // One header makes the difference: the least, or the greatest.
            String any = Runs.rule(s, 0, 0, 1, 0, 0);
            Runs.due(Runs.run(Runs.rule(s, 63, 0, 2, 0, 0), any), "needless(" + s + ", 0)", 0);
            Runs.due(Runs.run(Runs.rule(s, 63, 63, 2, 0, 0), any), "needless(" + s + ", 0)", 0);
            Runs.due(Runs.run(Runs.rule(s, 63, 63, 1, 0, 0), any), "needless(" + s + ", 0)", 1);
            // Back and a named port are the same at that port alone.
            for (int p = 0; p < 4; p++) {
                String named = Runs.rule(s, 0, 0, p, 0, 0);
                String back = Runs.rule(s, 0, 0, 5, 0, 0);
                Runs.due(Runs.run(named, back), "needless(" + s + ", 0) 0", "needless(" + s + ", 1) 1");
                Runs.due(Runs.run(back, named), "needless(" + s + ", 0) 0", "needless(" + s + ", 1) 1");
            }
        }
        Runs.sentence(23, "(dropped, or the same port and the same header)");
        Runs.due(Runs.run(Runs.rule(1, 0, 0, 4, 0, 0)), "needless(1, 0)", 1);
        Runs.due(Runs.run(Runs.rule(1, 0, 0, 4, 63, 5), Runs.rule(1, 0, 0, 4, 0, 0)), "needless(1, 0)", 1);
        Runs.due(Runs.run(Runs.rule(1, 63, 9, 4, 0, 0), Runs.rule(1, 0, 0, 3, 0, 0)), "needless(1, 0)", 0);
        Runs.due(Runs.run(Runs.rule(1, 0, 0, 3, 0, 0)), "needless(1, 0)", 0);
        Runs.due(Runs.run(Runs.rule(1, 32, 32, 3, 0, 0), Runs.rule(1, 0, 0, 3, 32, 32)), "needless(1, 0)", 1);
        Runs.due(Runs.run(Runs.rule(1, 32, 0, 3, 0, 0), Runs.rule(1, 0, 0, 3, 32, 32)), "needless(1, 0)", 0);
        // The same end by another port is not the same treatment.
        Runs.due(Runs.run("link(4, 0)", "link(5, 1)", Runs.rule(1, 1, 1, 0, 0, 0), Runs.rule(1, 0, 0, 1, 0, 0)),
                "differing(4) 0", "needless(1, 0) 0");
        Runs.sentence(23, "1 if, without rule i of a switch's list in the staged table");
        for (int i = 0; i < 6; i++) {
            // All six are alike but for the header they make: the first alone is needed.
            Runs.changesNothing(States.SIX, "needless(0, " + i + ")", i == 0 ? 0 : 1);
            Runs.changesNothing(States.THIRTY, "needless(4, " + i + ")", 0);
        }
        Runs.due(States.SIX, "publish() 1", "drop(0, 0) 5", "needless(0, 0) 0", "needless(0, 5) -1");
    }

    private static void promise24() {
        Runs.sentence(24, "from is a place (0 .. 19) at which a packet has come in, linked or not, and the active "
                + "table treats it to its end");
        for (int a = 0; a < 20; a++) {
            String rule = Runs.rule(a / 4, 0, 0, (a + 1) % 4, 0, 0);
            List<String> active = Runs.run(rule, "publish()", "drop(" + a / 4 + ", 0)");
            allAreDelivered(a, active);
            allAreDelivered(a, Runs.then(active, "link(" + a + ", " + (a + 7) % 20 + ")"));
            allAreDropped(a, Runs.run(rule));
            allAreDropped(a, Runs.run(rule, "link(" + a + ", " + (a + 7) % 20 + ")"));
        }
        Runs.sentence(24, "or from is 20 more than such a place, and the staged table does.");
        for (int a = 0; a < 20; a++) {
            String rule = Runs.rule(a / 4, 0, 0, (a + 1) % 4, 0, 0);
            List<String> active = Runs.run(rule, "publish()", "drop(" + a / 4 + ", 0)");
            allAreDelivered(a + 20, Runs.run(rule));
            allAreDelivered(a + 20, Runs.run(rule, "link(" + a + ", " + (a + 7) % 20 + ")"));
            allAreDropped(a + 20, active);
            allAreDropped(a + 20, Runs.then(active, "link(" + a + ", " + (a + 7) % 20 + ")"));
        }
        Runs.sentence(24, "Links are as they are now.");
        // Switch 0 sends all out at 1, switch 4 all at 19.
        List<String> run = Runs.run(Runs.rule(0, 0, 0, 1, 0, 0), Runs.rule(4, 0, 0, 3, 0, 0), "publish()");
        for (int from : new int[] {0, 20}) {
            Runs.due(run, "end(" + from + ", 0) 101", "link(1, 16) 0", "end(" + from + ", 0) 119",
                    "arriving(" + from + ", 19) 64", "visiting(" + from + ", 4) 64", "link(19, 2) 0",
                    "end(" + from + ", 0) 2", "ending(" + from + ", 1) 64", "nextArriving(" + from + ", 19, -1) -2",
                    "unlink(16) 1", "end(" + from + ", 0) 101", "nextArriving(" + from + ", 1, -1) 0",
                    "visiting(" + from + ", 4) 0", "ending(" + from + ", 1) 0");
        }
    }

    private static int nextPort(int from) {
        int place = from % 20;
        return place - place % 4 + (place + 1) % 4;
    }

    private static void allAreDelivered(int from, List<String> run) {
        int to = nextPort(from);
        Runs.due(run, "end(" + from + ", 0) " + (100 + to), "end(" + from + ", 63) " + (100 + to),
                "arriving(" + from + ", " + to + ") 64", "nextArriving(" + from + ", " + to + ", 5) 6",
                "ending(" + from + ", 0) 0", "ending(" + from + ", 1) 0",
                "visiting(" + from + ", " + from % 20 / 4 + ") 64");
    }

    private static void allAreDropped(int from, List<String> run) {
        int to = nextPort(from);
        Runs.due(run, "end(" + from + ", 0) 1", "end(" + from + ", 63) 1", "arriving(" + from + ", " + to + ") 0",
                "nextArriving(" + from + ", " + to + ", 5) -2", "ending(" + from + ", 0) 64",
                "ending(" + from + ", 1) 0", "visiting(" + from + ", " + from % 20 / 4 + ") 64");
    }

    public static void main(String[] args) {
        promise1();
        promise2();
        promise3();
        promise4();
        promise5();
        codesOfPromise5();
        promise6();
        promise7();
        promise8();
        promise9();
        promise10();
        promise11();
        promise12();
        promise13();
        promise14();
        promise15();
        promise16();
        promise17();
        promise18();
        promise19();
        promise20();
        promise21();
        promise22();
        promise23();
        promise24();
        Runs.end();
    }
}
