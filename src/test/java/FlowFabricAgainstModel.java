import java.util.ArrayList;
import java.util.Arrays;
import java.util.HashSet;
import java.util.List;
import java.util.Map;
import java.util.Random;
import java.util.Set;
import java.util.TreeMap;
import java.util.TreeSet;
import java.util.stream.IntStream;

/**
 * Runs of calls that are drawn with fixed seeds, answered by the class and by a second model of the document, which
 * holds tables and packets as objects instead of slots.
 */
public final class FlowFabricAgainstModel {
    private static final int BAD = -1;
    private static final int NONE = -2;
    private static final int FULL = -3;
    private static final int BUSY = -4;
    private static final int RUNS = 400;
    /** The document promises nothing of an object after so many calls. */
    private static final int CALLS = 512;

    private record Rule(int care, int value, int action, int mask, int bits) {
        boolean matches(int h) {
            return ((h ^ value) & care) == 0;
        }

        int makes(int h) {
            int made = 0;
            for (int bit = 1; bit < 64; bit *= 2) {
                made += (mask & bit) != 0 ? bits & bit : h & bit;
            }
            return made;
        }
    }

    /** What one treatment makes of a packet: port -1 if it is dropped. */
    private record Treated(int port, int header) {
    }

    private static final class Table {
        final List<List<Rule>> lists = new ArrayList<>();

        Table() {
            for (int s = 0; s < 5; s++) {
                lists.add(new ArrayList<>());
            }
        }

        Table copy() {
            Table t = new Table();
            for (int s = 0; s < 5; s++) {
                t.lists.get(s).addAll(lists.get(s));
            }
            return t;
        }
    }

    private static Treated treat(List<Rule> list, int port, int header) {
        for (Rule r : list) {
            if (r.matches(header)) {
                int out = r.action() == 5 ? port : r.action();
                return r.action() == 4 ? new Treated(-1, 0) : new Treated(out, r.makes(header));
            }
        }
        return new Treated(-1, 0);
    }

    private static final class Packet {
        final Table table;
        int place;
        int header;
        int state = 1;
        int treated = 0;
        final Set<Integer> visited = new HashSet<>();

        Packet(Table table, int place, int header) {
            this.table = table;
            this.place = place;
            this.header = header;
        }

        void step(Map<Integer, Integer> links) {
            visited.add(place / 4);
            Treated t = treat(table.lists.get(place / 4), place % 4, header);
            treated++;
            if (t.port() < 0) {
                state = 3;
                return;
            }
            header = t.header();
            int out = place - place % 4 + t.port();
            Integer other = links.get(out);
            place = other == null ? out : other;
            if (other == null) {
                state = 2;
            } else if (treated == 16) {
                state = 4;
            }
        }

        int end() {
            return state == 2 ? 100 + place : state == 3 ? 1 : 2;
        }
    }

    private static final class Model {
        final Map<Integer, Integer> links = new TreeMap<>();
        Table staged = new Table();
        Table active = new Table();
        final Packet[] packets = new Packet[8];

        static boolean out(int n, int limit) {
            return n < 0 || n >= limit;
        }

        boolean noRule(int s, int i) {
            return out(s, 5) || out(i, staged.lists.get(s).size());
        }

        Set<Table> inFlight() {
            Set<Table> tables = new HashSet<>();
            for (Packet p : packets) {
                if (p != null && p.state == 1) {
                    tables.add(p.table);
                }
            }
            return tables;
        }

        int kept() {
            Set<Table> tables = inFlight();
            tables.add(active);
            return tables.size();
        }

        Packet run(int from, int h) {
            Packet p = new Packet(from < 20 ? active : staged, from % 20, h);
            while (p.state == 1) {
                p.step(links);
            }
            return p;
        }

        IntStream headersTo(int from, int end) {
            return IntStream.range(0, 64).filter(h -> run(from, h).end() == end);
        }

        int answer(String call, int[] a) {
            switch (call) {
                case "link": case "unlink": case "linked":
                    return links(call, a);
                case "add": case "drop": case "move": case "rules": case "deciding": case "needless":
                    return lists(call, a);
                case "publish": case "revert":
                    return tables(call);
                case "send": case "tick": case "state": case "where": case "header":
                    return flight(call, a);
                default:
                    return question(call, a);
            }
        }

        int links(String call, int[] a) {
            if (out(a[0], 20)) {
                return BAD;
            }
            if (call.equals("link")) {
                if (out(a[1], 20) || a[0] == a[1]) {
                    return BAD;
                }
                if (links.containsKey(a[0]) || links.containsKey(a[1])) {
                    return BUSY;
                }
                links.put(a[0], a[1]);
                links.put(a[1], a[0]);
                return 0;
            }
            Integer other = links.get(a[0]);
            if (other == null) {
                return NONE;
            }
            if (call.equals("unlink")) {
                links.remove(a[0]);
                links.remove(other);
            }
            return other;
        }

        int lists(String call, int[] a) {
            if (out(a[0], 5)) {
                return BAD;
            }
            List<Rule> list = staged.lists.get(a[0]);
            if (call.equals("rules")) {
                return list.size();
            }
            if (call.equals("add")) {
                if (out(a[1], 4096) || out(a[2], 6) || out(a[3], 4096)) {
                    return BAD;
                }
                if (list.size() == 6) {
                    return FULL;
                }
                list.add(new Rule(a[1] >> 6, a[1] & 63, a[2], a[3] >> 6, a[3] & 63));
                return list.size() - 1;
            }
            if (noRule(a[0], a[1]) || call.equals("move") && noRule(a[0], a[2])) {
                return BAD;
            }
            switch (call) {
                case "drop":
                    list.remove(a[1]);
                    return list.size();
                case "move":
                    list.add(a[2], list.remove(a[1]));
                    return 0;
                case "deciding":
                    return (int) IntStream.range(0, 64).filter(h -> list.get(a[1]).matches(h)
                            && list.subList(0, a[1]).stream().noneMatch(r -> r.matches(h))).count();
                default:
                    List<Rule> without = new ArrayList<>(list);
                    without.remove(a[1]);
                    return IntStream.range(0, 256).allMatch(n -> treat(list, n / 64, n % 64)
                            .equals(treat(without, n / 64, n % 64))) ? 1 : 0;
            }
        }

        int tables(String call) {
            if (call.equals("revert")) {
                staged = active.copy();
                return staged.lists.stream().mapToInt(List::size).sum();
            }
            if (kept() == 3 && inFlight().contains(active)) {
                return BUSY;
            }
            active = staged.copy();
            return kept();
        }

        int flight(String call, int[] a) {
            if (call.equals("tick")) {
                int flying = 0;
                for (Packet p : packets) {
                    if (p != null && p.state == 1) {
                        p.step(links);
                        flying += p.state == 1 ? 1 : 0;
                    }
                }
                return flying;
            }
            if (call.equals("send")) {
                if (out(a[0], 20) || out(a[1], 64)) {
                    return BAD;
                }
                if (links.containsKey(a[0])) {
                    return BUSY;
                }
                int k = 0;
                while (k < 8 && packets[k] != null && packets[k].state == 1) {
                    k++;
                }
                if (k == 8) {
                    return FULL;
                }
                packets[k] = new Packet(active, a[0], a[1]);
                return k;
            }
            if (out(a[0], 8)) {
                return BAD;
            }
            Packet p = packets[a[0]];
            if (p == null) {
                return call.equals("state") ? 0 : NONE;
            }
            return call.equals("state") ? p.state : call.equals("where") ? p.place : p.header;
        }

        int question(String call, int[] a) {
            if (out(a[0], call.equals("differing") ? 20 : 40)) {
                return BAD;
            }
            switch (call) {
                case "end":
                    return out(a[1], 64) ? BAD : run(a[0], a[1]).end();
                case "arriving":
                    return out(a[1], 20) ? BAD : (int) headersTo(a[0], 100 + a[1]).count();
                case "nextArriving":
                    return out(a[1], 20) ? BAD : headersTo(a[0], 100 + a[1]).filter(h -> h > a[2]).min().orElse(NONE);
                case "ending":
                    return out(a[1], 2) ? BAD : (int) headersTo(a[0], 1 + a[1]).count();
                case "visiting":
                    return out(a[1], 5) ? BAD
                            : (int) IntStream.range(0, 64).filter(h -> run(a[0], h).visited.contains(a[1])).count();
                default:
                    return (int) IntStream.range(0, 64)
                            .filter(h -> run(a[0], h).end() != run(a[0] + 20, h).end()).count();
            }
        }
    }

    private static int ask(FlowFabric x, String call, int[] a) {
        switch (call) {
            case "link": return x.link(a[0], a[1]);
            case "unlink": return x.unlink(a[0]);
            case "linked": return x.linked(a[0]);
            case "add": return x.add(a[0], a[1], a[2], a[3]);
            case "drop": return x.drop(a[0], a[1]);
            case "move": return x.move(a[0], a[1], a[2]);
            case "rules": return x.rules(a[0]);
            case "publish": return x.publish();
            case "revert": return x.revert();
            case "send": return x.send(a[0], a[1]);
            case "tick": return x.tick();
            case "state": return x.state(a[0]);
            case "where": return x.where(a[0]);
            case "header": return x.header(a[0]);
            case "end": return x.end(a[0], a[1]);
            case "arriving": return x.arriving(a[0], a[1]);
            case "nextArriving": return x.nextArriving(a[0], a[1], a[2]);
            case "ending": return x.ending(a[0], a[1]);
            case "visiting": return x.visiting(a[0], a[1]);
            case "differing": return x.differing(a[0]);
            case "deciding": return x.deciding(a[0], a[1]);
            default: return x.needless(a[0], a[1]);
        }
    }

    /** The calls as often as they are drawn, and the bound of each argument. */
    private record Kind(String call, int weight, int... bounds) {
    }

    private static final List<Kind> KINDS = List.of(
            new Kind("link", 8, 20, 20), new Kind("unlink", 2, 20), new Kind("linked", 2, 20),
            new Kind("add", 14, 5, 4096, 6, 4096), new Kind("drop", 3, 5, 6), new Kind("move", 4, 5, 6, 6),
            new Kind("rules", 1, 5), new Kind("publish", 8), new Kind("revert", 1), new Kind("send", 16, 20, 64),
            new Kind("tick", 10), new Kind("state", 6, 8), new Kind("where", 6, 8), new Kind("header", 6, 8),
            new Kind("end", 4, 40, 64), new Kind("arriving", 4, 40, 20), new Kind("nextArriving", 4, 40, 20, 64),
            new Kind("ending", 3, 40, 2), new Kind("visiting", 3, 40, 5), new Kind("differing", 2, 20),
            new Kind("deciding", 3, 5, 6), new Kind("needless", 3, 5, 6));

    private static Kind draw(Random random) {
        int n = random.nextInt(KINDS.stream().mapToInt(Kind::weight).sum());
        int at = 0;
        while (n >= KINDS.get(at).weight()) {
            n -= KINDS.get(at).weight();
            at++;
        }
        return KINDS.get(at);
    }

    private static int argument(Random random, int bound) {
        int n = random.nextInt(120);
        if (n == 0) {
            return random.nextInt();
        }
        if (n == 1) {
            return random.nextBoolean() ? -1 : bound;
        }
        if (bound == 4096) {
            // Few cared for or changed bits: else hardly a packet gets far.
            return 64 * (random.nextInt(64) & random.nextInt(64) & random.nextInt(64)) + random.nextInt(64);
        }
        return random.nextInt(bound);
    }

    private static boolean runIsRight(int seed, Map<String, Set<Integer>> seen) {
        Random random = new Random(seed);
        FlowFabric x = new FlowFabric();
        Model model = new Model();
        List<String> calls = new ArrayList<>();
        for (int n = 0; n < CALLS; n++) {
            Kind kind = draw(random);
            int[] a = Arrays.stream(kind.bounds()).map(bound -> argument(random, bound)).toArray();
            int got = ask(x, kind.call(), a);
            int want = model.answer(kind.call(), a);
            seen.computeIfAbsent(kind.call(), c -> new TreeSet<>()).add(got);
            calls.add(kind.call() + Arrays.toString(a) + " " + got);
            if (got != want) {
                calls.forEach(System.out::println);
                System.out.println("seed " + seed + ", call " + n + ": due is " + want);
                return false;
            }
        }
        return true;
    }

    /** A drawing that does not come to an answer proves nothing of it. */
    private static boolean allSeen(Map<String, Set<Integer>> seen) {
        Map<String, Set<Integer>> due = Map.of(
                "link", Set.of(BAD, BUSY, 0), "unlink", Set.of(BAD, NONE, 0, 19), "add", Set.of(BAD, FULL, 0, 5),
                "publish", Set.of(BUSY, 1, 2, 3), "send", Set.of(BAD, BUSY, FULL, 0, 7),
                "state", Set.of(BAD, 0, 1, 2, 3, 4), "end", Set.of(BAD, 1, 2, 100, 119),
                "nextArriving", Set.of(BAD, NONE, 0, 63), "needless", Set.of(BAD, 0, 1),
                "tick", Set.of(0, 1, 2, 3, 4, 5, 6, 7, 8));
        boolean all = true;
        for (String call : due.keySet()) {
            if (!seen.get(call).containsAll(due.get(call))) {
                System.out.println(call + " answered " + seen.get(call) + " alone");
                all = false;
            }
        }
        return all;
    }

    public static void main(String[] args) {
        Map<String, Set<Integer>> seen = new TreeMap<>();
        boolean right = true;
        for (int seed = 0; seed < RUNS && right; seed++) {
            right = runIsRight(seed, seen);
        }
        if (!right || !allSeen(seen)) {
            System.exit(1);
        }
    }
}
