public final class FlowFabric {
    public static final int BAD = -1;
    public static final int NONE = -2;
    public static final int FULL = -3;
    public static final int BUSY = -4;

    private static final int SWITCHES = 5;
    private static final int PORTS = 4;
    private static final int PLACES = 20;
    private static final int HEADERS = 64;
    private static final int CODES = 4096;
    private static final int LIST_LIMIT = 6;
    private static final int PACKETS = 8;
    private static final int TREATMENTS = 16;

    private static final int ACTIONS = 6;
    private static final int ACTION_DROP = 4;
    private static final int ACTION_BACK = 5;

    // Slots 0 .. 2 hold the kept tables, the slot after them the staged one.
    private static final int KEPT_LIMIT = 3;
    private static final int STAGED = 3;
    private static final int TABLES = 4;
    private static final int LISTS = TABLES * SWITCHES;
    private static final int RULE_SLOTS = LISTS * LIST_LIMIT;

    private static final int NEVER = 0;
    private static final int IN_FLIGHT = 1;
    private static final int DELIVERED = 2;
    private static final int DROPPED = 3;
    private static final int LOST = 4;

    private static final int END_DROPPED = 1;
    private static final int END_LOST = 2;
    private static final int END_DELIVERED = 100;

    private static final int NOTHING = -1;

    private final int[] peer = new int[PLACES];

    private final int[] listSize = new int[LISTS];
    private final int[] ruleMatch = new int[RULE_SLOTS];
    private final int[] ruleAction = new int[RULE_SLOTS];
    private final int[] ruleChange = new int[RULE_SLOTS];

    private final int[] packetState = new int[PACKETS];
    private final int[] packetPlace = new int[PACKETS];
    private final int[] packetHeader = new int[PACKETS];
    private final int[] packetTable = new int[PACKETS];
    private final int[] packetTreated = new int[PACKETS];

    private int activeTable = 0;

    public FlowFabric() {
        for (int a = 0; a < PLACES; a++) {
            peer[a] = NOTHING;
        }
    }

    public int link(int a, int b) {
        if (!within(a, PLACES) || !within(b, PLACES) || a == b) {
            return BAD;
        }
        if (peer[a] != NOTHING || peer[b] != NOTHING) {
            return BUSY;
        }
        peer[a] = b;
        peer[b] = a;
        return 0;
    }

    public int unlink(int a) {
        if (!within(a, PLACES)) {
            return BAD;
        }
        int other = peer[a];
        if (other == NOTHING) {
            return NONE;
        }
        peer[a] = NOTHING;
        peer[other] = NOTHING;
        return other;
    }

    public int linked(int a) {
        if (!within(a, PLACES)) {
            return BAD;
        }
        return peer[a] == NOTHING ? NONE : peer[a];
    }

    public int add(int s, int match, int action, int change) {
        if (!within(s, SWITCHES) || !within(match, CODES)
                || !within(action, ACTIONS) || !within(change, CODES)) {
            return BAD;
        }
        int list = listOf(STAGED, s);
        int number = listSize[list];
        if (number >= LIST_LIMIT) {
            return FULL;
        }
        putRule(list * LIST_LIMIT + number, match, action, change);
        listSize[list] = number + 1;
        return number;
    }

    public int drop(int s, int i) {
        if (!isStagedRule(s, i)) {
            return BAD;
        }
        int list = listOf(STAGED, s);
        int last = listSize[list] - 1;
        shiftRule(list, i, last);
        listSize[list] = last;
        return last;
    }

    public int move(int s, int i, int j) {
        if (!isStagedRule(s, i) || !isStagedRule(s, j)) {
            return BAD;
        }
        int list = listOf(STAGED, s);
        shiftRule(list, i, j);
        return 0;
    }

    public int rules(int s) {
        if (!within(s, SWITCHES)) {
            return BAD;
        }
        return listSize[listOf(STAGED, s)];
    }

    public int publish() {
        // Without packets in flight the active table is not kept any longer, so its slot serves again.
        if (treatsPackets(activeTable)) {
            int slot = unkeptSlot();
            if (slot == NOTHING) {
                return BUSY;
            }
            activeTable = slot;
        }
        copyTable(STAGED, activeTable);
        return keptTables();
    }

    public int revert() {
        copyTable(activeTable, STAGED);
        int total = 0;
        for (int s = 0; s < SWITCHES; s++) {
            total += listSize[listOf(STAGED, s)];
        }
        return total;
    }

    public int send(int place, int header) {
        if (!within(place, PLACES) || !within(header, HEADERS)) {
            return BAD;
        }
        if (peer[place] != NOTHING) {
            return BUSY;
        }
        int k = leastFreeNumber();
        if (k == NOTHING) {
            return FULL;
        }
        packetState[k] = IN_FLIGHT;
        packetPlace[k] = place;
        packetHeader[k] = header;
        packetTable[k] = activeTable;
        packetTreated[k] = 0;
        return k;
    }

    public int tick() {
        int flying = 0;
        for (int k = 0; k < PACKETS; k++) {
            if (packetState[k] == IN_FLIGHT) {
                treatPacket(k);
            }
            if (packetState[k] == IN_FLIGHT) {
                flying++;
            }
        }
        return flying;
    }

    public int state(int k) {
        return within(k, PACKETS) ? packetState[k] : BAD;
    }

    public int where(int k) {
        if (!within(k, PACKETS)) {
            return BAD;
        }
        return packetState[k] == NEVER ? NONE : packetPlace[k];
    }

    public int header(int k) {
        if (!within(k, PACKETS)) {
            return BAD;
        }
        return packetState[k] == NEVER ? NONE : packetHeader[k];
    }

    public int end(int from, int header) {
        if (!within(from, 2 * PLACES) || !within(header, HEADERS)) {
            return BAD;
        }
        return fate(from, header);
    }

    public int arriving(int from, int to) {
        if (!within(from, 2 * PLACES) || !within(to, PLACES)) {
            return BAD;
        }
        return countFates(from, END_DELIVERED + to);
    }

    public int nextArriving(int from, int to, int after) {
        if (!within(from, 2 * PLACES) || !within(to, PLACES)) {
            return BAD;
        }
        for (int h = 0; h < HEADERS; h++) {
            if (h > after && fate(from, h) == END_DELIVERED + to) {
                return h;
            }
        }
        return NONE;
    }

    public int ending(int from, int kind) {
        if (!within(from, 2 * PLACES) || !within(kind, 2)) {
            return BAD;
        }
        return countFates(from, kind == 0 ? END_DROPPED : END_LOST);
    }

    public int visiting(int from, int s) {
        if (!within(from, 2 * PLACES) || !within(s, SWITCHES)) {
            return BAD;
        }
        int count = 0;
        for (int h = 0; h < HEADERS; h++) {
            if (comesTo(from, h, s)) {
                count++;
            }
        }
        return count;
    }

    public int differing(int place) {
        if (!within(place, PLACES)) {
            return BAD;
        }
        int count = 0;
        for (int h = 0; h < HEADERS; h++) {
            if (fate(place, h) != fate(place + PLACES, h)) {
                count++;
            }
        }
        return count;
    }

    public int deciding(int s, int i) {
        if (!isStagedRule(s, i)) {
            return BAD;
        }
        int list = listOf(STAGED, s);
        int rule = list * LIST_LIMIT + i;
        int count = 0;
        for (int h = 0; h < HEADERS; h++) {
            if (decidingRule(list, h, NOTHING) == rule) {
                count++;
            }
        }
        return count;
    }

    public int needless(int s, int i) {
        if (!isStagedRule(s, i)) {
            return BAD;
        }
        int rule = listOf(STAGED, s) * LIST_LIMIT + i;
        // Every port is tried, as a rule that sends back and one that names a port agree at that port alone.
        for (int p = 0; p < PORTS; p++) {
            for (int h = 0; h < HEADERS; h++) {
                int place = s * PORTS + p;
                if (goingOut(STAGED, place, h, NOTHING) != goingOut(STAGED, place, h, rule)) {
                    return 0;
                }
            }
        }
        return 1;
    }

    private static boolean within(int n, int limit) {
        return n >= 0 && n < limit;
    }

    private static int listOf(int table, int s) {
        return table * SWITCHES + s;
    }

    private boolean isStagedRule(int s, int i) {
        if (!within(s, SWITCHES)) {
            return false;
        }
        int size = listSize[listOf(STAGED, s)];
        return within(i, size);
    }

    private void putRule(int rule, int match, int action, int change) {
        ruleMatch[rule] = match;
        ruleAction[rule] = action;
        ruleChange[rule] = change;
    }

    private void copyRule(int from, int to) {
        putRule(to, ruleMatch[from], ruleAction[from], ruleChange[from]);
    }

    /** Serves both move and drop: a rule moved to the end of its list can be cut off there. */
    private void shiftRule(int list, int i, int j) {
        int first = list * LIST_LIMIT;
        int match = ruleMatch[first + i];
        int action = ruleAction[first + i];
        int change = ruleChange[first + i];
        for (int n = i; n < j; n++) {
            copyRule(first + n + 1, first + n);
        }
        for (int n = i; n > j; n--) {
            copyRule(first + n - 1, first + n);
        }
        putRule(first + j, match, action, change);
    }

    private void copyTable(int from, int to) {
        for (int s = 0; s < SWITCHES; s++) {
            listSize[listOf(to, s)] = listSize[listOf(from, s)];
        }
        int rulesOfTable = SWITCHES * LIST_LIMIT;
        for (int n = 0; n < rulesOfTable; n++) {
            copyRule(from * rulesOfTable + n, to * rulesOfTable + n);
        }
    }

    private boolean treatsPackets(int table) {
        for (int k = 0; k < PACKETS; k++) {
            if (packetState[k] == IN_FLIGHT && packetTable[k] == table) {
                return true;
            }
        }
        return false;
    }

    private boolean isKept(int table) {
        return table == activeTable || treatsPackets(table);
    }

    private int keptTables() {
        int count = 0;
        for (int table = 0; table < KEPT_LIMIT; table++) {
            if (isKept(table)) {
                count++;
            }
        }
        return count;
    }

    private int unkeptSlot() {
        for (int table = 0; table < KEPT_LIMIT; table++) {
            if (!isKept(table)) {
                return table;
            }
        }
        return NOTHING;
    }

    private int leastFreeNumber() {
        for (int k = 0; k < PACKETS; k++) {
            if (packetState[k] != IN_FLIGHT) {
                return k;
            }
        }
        return NOTHING;
    }

    /** The slot of the first rule of a list, other than the left out one, that matches; NOTHING if there is none. */
    private int decidingRule(int list, int header, int leftOut) {
        for (int n = 0; n < listSize[list]; n++) {
            int rule = list * LIST_LIMIT + n;
            int care = ruleMatch[rule] / HEADERS;
            int value = ruleMatch[rule] % HEADERS;
            if (rule != leftOut && ((header ^ value) & care) == 0) {
                return rule;
            }
        }
        return NOTHING;
    }

    /**
     * Treats a header once: NOTHING if it is dropped, else HEADERS * the place at which it goes out
     * + its new header. One number for both, so that questions need no fields to answer through.
     */
    private int goingOut(int table, int place, int header, int leftOut) {
        int s = place / PORTS;
        int list = listOf(table, s);
        int rule = decidingRule(list, header, leftOut);
        if (rule == NOTHING || ruleAction[rule] == ACTION_DROP) {
            return NOTHING;
        }
        int mask = ruleChange[rule] / HEADERS;
        int bits = ruleChange[rule] % HEADERS;
        int out = ruleAction[rule] == ACTION_BACK ? place : s * PORTS + ruleAction[rule];
        return out * HEADERS + ((header & ~mask) | (bits & mask));
    }

    private void treatPacket(int k) {
        int gone = goingOut(packetTable[k], packetPlace[k], packetHeader[k], NOTHING);
        packetTreated[k]++;
        if (gone == NOTHING) {
            packetState[k] = DROPPED;
            return;
        }
        int out = gone / HEADERS;
        packetHeader[k] = gone % HEADERS;
        if (peer[out] == NOTHING) {
            packetPlace[k] = out;
            packetState[k] = DELIVERED;
            return;
        }
        packetPlace[k] = peer[out];
        if (packetTreated[k] >= TREATMENTS) {
            packetState[k] = LOST;
        }
    }

    private int tableOf(int from) {
        return from < PLACES ? activeTable : STAGED;
    }

    private int fate(int from, int header) {
        int table = tableOf(from);
        int place = from % PLACES;
        int h = header;
        for (int treated = 0; treated < TREATMENTS; treated++) {
            int gone = goingOut(table, place, h, NOTHING);
            if (gone == NOTHING) {
                return END_DROPPED;
            }
            int out = gone / HEADERS;
            if (peer[out] == NOTHING) {
                return END_DELIVERED + out;
            }
            place = peer[out];
            h = gone % HEADERS;
        }
        return END_LOST;
    }

    private int countFates(int from, int wanted) {
        int count = 0;
        for (int h = 0; h < HEADERS; h++) {
            if (fate(from, h) == wanted) {
                count++;
            }
        }
        return count;
    }

    /** Ends ahead of the place to which the last treatment leads, as the packet has been treated 16 times by then. */
    private boolean comesTo(int from, int header, int s) {
        int table = tableOf(from);
        int place = from % PLACES;
        int h = header;
        for (int treated = 0; treated < TREATMENTS; treated++) {
            if (place / PORTS == s) {
                return true;
            }
            int gone = goingOut(table, place, h, NOTHING);
            if (gone == NOTHING || peer[gone / HEADERS] == NOTHING) {
                return false;
            }
            place = peer[gone / HEADERS];
            h = gone % HEADERS;
        }
        return false;
    }
}
