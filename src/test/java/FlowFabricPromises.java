/** The promises of the document one by one: ordinary inputs, the edges it names, and wrong inputs. */
public final class FlowFabricPromises {
    private static final int BAD = -1;
    private static final int NONE = -2;
    private static final int FULL = -3;
    private static final int BUSY = -4;
    private static final int[] FAR = {Integer.MIN_VALUE, -1000, -1, Integer.MAX_VALUE};
    /** Matches every header. */
    private static final int ANY = 0;
    /** Leaves the header as it is. */
    private static final int SAME = 0;
    private static final int DROP = 4;
    private static final int BACK = 5;

    private static int wrong = 0;
    private static int checks = 0;

    private static void due(int promise, String call, long got, long want) {
        checks++;
        if (got != want) {
            wrong++;
            System.out.println("promise " + promise + ": " + call + " answered " + got + ", due is " + want);
        }
    }

    private static int match(int care, int value) {
        return 64 * care + value;
    }

    private static int change(int mask, int bits) {
        return 64 * mask + bits;
    }

    /** A ring of ports 0 and 1 of switch 0, in which a packet that is sent out at either goes on for ever. */
    private static FlowFabric ring() {
        FlowFabric x = new FlowFabric();
        x.link(0, 1);
        x.add(0, ANY, 0, SAME);
        x.publish();
        return x;
    }

    private static void newObject() {
        FlowFabric x = new FlowFabric();
        for (int a = 0; a < 20; a++) {
            due(1, "linked(" + a + ")", x.linked(a), NONE);
            due(1, "ending(" + a + ", 0)", x.ending(a, 0), 64);
            due(1, "ending(" + (a + 20) + ", 0)", x.ending(a + 20, 0), 64);
        }
        for (int s = 0; s < 5; s++) {
            due(1, "rules(" + s + ")", x.rules(s), 0);
        }
        for (int k = 0; k < 8; k++) {
            due(1, "state(" + k + ")", x.state(k), 0);
            due(1, "where(" + k + ")", x.where(k), NONE);
            due(1, "header(" + k + ")", x.header(k), NONE);
        }
        due(1, "tick()", x.tick(), 0);
        due(1, "revert()", x.revert(), 0);
        due(1, "publish()", x.publish(), 1);
        due(1, "BAD", FlowFabric.BAD, -1);
        due(1, "NONE", FlowFabric.NONE, -2);
        due(1, "FULL", FlowFabric.FULL, -3);
        due(1, "BUSY", FlowFabric.BUSY, -4);
    }

    private static void objectsAreApart() {
        FlowFabric x = new FlowFabric();
        FlowFabric y = new FlowFabric();
        x.link(0, 19);
        x.add(2, ANY, 0, SAME);
        x.send(5, 5);
        due(1, "linked(0) of another object", y.linked(0), NONE);
        due(1, "rules(2) of another object", y.rules(2), 0);
        due(1, "state(0) of another object", y.state(0), 0);
    }

    private static void link() {
        FlowFabric x = new FlowFabric();
        due(2, "link(0, 19)", x.link(0, 19), 0);
        due(2, "link(4, 5), one switch", x.link(4, 5), 0);
        due(2, "link(0, 1), a linked", x.link(0, 1), BUSY);
        due(2, "link(1, 0), b linked", x.link(1, 0), BUSY);
        due(2, "link(0, 19) again", x.link(0, 19), BUSY);
        due(2, "link(19, 0) again", x.link(19, 0), BUSY);
        due(2, "link(0, 0), linked and the same", x.link(0, 0), BAD);
        due(2, "link(3, 3)", x.link(3, 3), BAD);
        due(2, "link(0, 20), linked and out of bounds", x.link(0, 20), BAD);
        due(2, "link(20, 0)", x.link(20, 0), BAD);
        for (int far : FAR) {
            due(2, "link(" + far + ", 2)", x.link(far, 2), BAD);
            due(2, "link(2, " + far + ")", x.link(2, far), BAD);
        }
        due(2, "linked(1) after refusals", x.linked(1), NONE);
        due(2, "linked(2) after refusals", x.linked(2), NONE);
        due(2, "linked(0)", x.linked(0), 19);
        due(2, "linked(5)", x.linked(5), 4);
    }

    private static void unlink() {
        FlowFabric x = new FlowFabric();
        x.link(0, 19);
        x.link(7, 8);
        due(3, "unlink(0)", x.unlink(0), 19);
        due(3, "linked(0)", x.linked(0), NONE);
        due(3, "linked(19)", x.linked(19), NONE);
        due(3, "linked(7)", x.linked(7), 8);
        due(3, "unlink(0) again", x.unlink(0), NONE);
        due(3, "unlink(19) again", x.unlink(19), NONE);
        due(3, "unlink(8), the second of the pair", x.unlink(8), 7);
        due(3, "linked(7)", x.linked(7), NONE);
        due(3, "unlink(20)", x.unlink(20), BAD);
        for (int far : FAR) {
            due(3, "unlink(" + far + ")", x.unlink(far), BAD);
        }
        due(3, "link(19, 8) after unlinking", x.link(19, 8), 0);
        due(3, "unlink(8) to place 19", x.unlink(8), 19);
        x.link(19, 0);
        due(3, "unlink(19) to place 0", x.unlink(19), 0);
    }

    private static void linked() {
        FlowFabric x = new FlowFabric();
        for (int a = 0; a < 10; a++) {
            x.link(a, 19 - a);
        }
        for (int a = 0; a < 20; a++) {
            due(4, "linked(" + a + ")", x.linked(a), 19 - a);
        }
        due(4, "linked(20)", x.linked(20), BAD);
        for (int far : FAR) {
            due(4, "linked(" + far + ")", x.linked(far), BAD);
        }
    }

    private static void add() {
        FlowFabric x = new FlowFabric();
        for (int i = 0; i < 6; i++) {
            due(5, "add(4, 4095, " + i + ", 4095)", x.add(4, 4095, i, 4095), i);
        }
        due(5, "add of a seventh", x.add(4, ANY, 0, SAME), FULL);
        due(5, "rules(4)", x.rules(4), 6);
        due(5, "rules(3)", x.rules(3), 0);
        due(5, "add(0, 0, 0, 0)", x.add(0, 0, 0, 0), 0);
        due(5, "add(4, 4096, 0, 0) to a full list", x.add(4, 4096, 0, 0), BAD);
        due(5, "add(5, ..)", x.add(5, 0, 0, 0), BAD);
        due(5, "add(.., 4096, ..)", x.add(0, 4096, 0, 0), BAD);
        due(5, "add(.., 6, ..)", x.add(0, 0, 6, 0), BAD);
        due(5, "add(.., 4096)", x.add(0, 0, 0, 4096), BAD);
        for (int far : FAR) {
            due(5, "add(" + far + ", ..)", x.add(far, 0, 0, 0), BAD);
            due(5, "add match " + far, x.add(0, far, 0, 0), BAD);
            due(5, "add action " + far, x.add(0, 0, far, 0), BAD);
            due(5, "add change " + far, x.add(0, 0, 0, far), BAD);
        }
        due(5, "rules(0) after refusals", x.rules(0), 1);
    }

    private static void addedRuleMatchesAndChanges() {
        FlowFabric x = new FlowFabric();
        x.add(1, match(0b110000, 0b101111), 3, change(0b001111, 0b110101));
        x.publish();
        due(5, "deciding(1, 0)", x.deciding(1, 0), 16);
        due(5, "end(4, 32)", x.end(4, 0b100000), 107);
        due(5, "end(4, 47)", x.end(4, 0b101111), 107);
        due(5, "end(4, 48)", x.end(4, 0b110000), 1);
        due(5, "end(4, 31)", x.end(4, 0b011111), 1);
        due(5, "end(8, 32), another switch", x.end(8, 0b100000), 1);
        x.send(4, 0b101010);
        x.tick();
        due(5, "header(0)", x.header(0), 0b100101);
    }

    private static FlowFabric sixRules() {
        FlowFabric x = new FlowFabric();
        // The header tells which rule decided.
        for (int i = 0; i < 6; i++) {
            x.add(0, ANY, 2, change(63, i));
        }
        return x;
    }

    /** Looks at the rules of a list that sixRules began: the first one decides, and dropping it shows the next. */
    private static void dueList(int promise, FlowFabric x, int... want) {
        due(promise, "rules(0)", x.rules(0), want.length);
        for (int i = 0; i < want.length; i++) {
            x.publish();
            x.send(3, 63);
            x.tick();
            due(promise, "rule " + i + " of the list", x.header(0), want[i]);
            x.drop(0, 0);
        }
    }

    private static void drop() {
        FlowFabric x = sixRules();
        x.add(1, ANY, 0, SAME);
        due(6, "drop(0, 1)", x.drop(0, 1), 5);
        due(6, "drop(0, 5), not there any more", x.drop(0, 5), BAD);
        due(6, "drop(0, 4), the last", x.drop(0, 4), 4);
        due(6, "drop(0, 0), the first", x.drop(0, 0), 3);
        due(6, "rules(1)", x.rules(1), 1);
        due(6, "drop(5, 0)", x.drop(5, 0), BAD);
        due(6, "drop(2, 0), no rule", x.drop(2, 0), BAD);
        for (int far : FAR) {
            due(6, "drop(" + far + ", 0)", x.drop(far, 0), BAD);
            due(6, "drop(0, " + far + ")", x.drop(0, far), BAD);
        }
        dueList(6, x, 2, 3, 4);
        due(6, "drop(0, 0) of none", x.drop(0, 0), BAD);
        due(6, "drop(1, 0)", x.drop(1, 0), 0);
        due(6, "add after drops", x.add(0, ANY, 0, SAME), 0);
    }

    private static void move() {
        FlowFabric down = sixRules();
        due(7, "move(0, 1, 3)", down.move(0, 1, 3), 0);
        dueList(7, down, 0, 2, 3, 1, 4, 5);
        FlowFabric up = sixRules();
        due(7, "move(0, 3, 1)", up.move(0, 3, 1), 0);
        dueList(7, up, 0, 3, 1, 2, 4, 5);
        FlowFabric ends = sixRules();
        due(7, "move(0, 0, 5)", ends.move(0, 0, 5), 0);
        dueList(7, ends, 1, 2, 3, 4, 5, 0);
        FlowFabric front = sixRules();
        due(7, "move(0, 5, 0)", front.move(0, 5, 0), 0);
        dueList(7, front, 5, 0, 1, 2, 3, 4);
        FlowFabric same = sixRules();
        due(7, "move(0, 2, 2)", same.move(0, 2, 2), 0);
        dueList(7, same, 0, 1, 2, 3, 4, 5);
        FlowFabric x = sixRules();
        x.drop(0, 5);
        due(7, "move(0, 5, 0)", x.move(0, 5, 0), BAD);
        due(7, "move(0, 0, 5)", x.move(0, 0, 5), BAD);
        due(7, "move(5, 0, 0)", x.move(5, 0, 0), BAD);
        due(7, "move(1, 0, 0), no rules", x.move(1, 0, 0), BAD);
        for (int far : FAR) {
            due(7, "move(" + far + ", 0, 1)", x.move(far, 0, 1), BAD);
            due(7, "move(0, " + far + ", 1)", x.move(0, far, 1), BAD);
            due(7, "move(0, 1, " + far + ")", x.move(0, 1, far), BAD);
        }
        dueList(7, x, 0, 1, 2, 3, 4);
    }

    private static void rules() {
        FlowFabric x = new FlowFabric();
        for (int s = 0; s < 5; s++) {
            for (int i = 0; i <= s; i++) {
                x.add(s, ANY, 0, SAME);
            }
        }
        for (int s = 0; s < 5; s++) {
            due(8, "rules(" + s + ")", x.rules(s), s + 1);
        }
        x.publish();
        x.drop(4, 0);
        due(8, "rules(4), of the staged table", x.rules(4), 4);
        due(8, "rules(5)", x.rules(5), BAD);
        for (int far : FAR) {
            due(8, "rules(" + far + ")", x.rules(far), BAD);
        }
    }

    private static void publish() {
        FlowFabric x = ring();
        due(9, "publish() without packets", x.publish(), 1);
        x.send(2, 0);
        due(9, "publish() with a packet", x.publish(), 2);
        due(9, "publish() with no packet of the active table", x.publish(), 2);
        x.send(2, 1);
        due(9, "publish() of a third", x.publish(), 3);
        due(9, "publish() of three, none in flight by the active one", x.publish(), 3);
        x.drop(0, 0);
        due(9, "publish() of three, with another table", x.publish(), 3);
        due(9, "end(2, 0) by the new table", x.end(2, 0), 1);
        x.send(2, 2);
        x.add(0, ANY, 3, SAME);
        due(9, "publish() of a fourth", x.publish(), BUSY);
        due(9, "end(2, 0) after a refusal", x.end(2, 0), 1);
        due(9, "end(22, 0) after a refusal", x.end(22, 0), 103);
        due(9, "rules(0) after a refusal", x.rules(0), 1);
        due(9, "tick(), the third is dropped", x.tick(), 2);
        due(9, "state(2)", x.state(2), 3);
        due(9, "publish() after it", x.publish(), 3);
        due(9, "end(2, 0)", x.end(2, 0), 103);
        for (int n = 0; n < 15; n++) {
            x.tick();
        }
        due(9, "state(0)", x.state(0), 4);
        due(9, "publish() when all have ended", x.publish(), 1);
    }

    private static void publishFreesTheMiddleTable() {
        FlowFabric x = ring();
        x.send(2, 0);
        x.drop(0, 0);
        x.add(0, ANY, 2, SAME);
        x.publish();
        x.send(2, 0);
        x.drop(0, 0);
        x.add(0, ANY, 3, SAME);
        due(9, "publish()", x.publish(), 3);
        due(9, "send(2, 0)", x.send(2, 0), 2);
        due(9, "publish()", x.publish(), BUSY);
        due(9, "tick()", x.tick(), 1);
        due(9, "where(1), by the second table", x.where(1), 2);
        due(9, "where(2), by the third table", x.where(2), 3);
        x.send(2, 0);
        x.drop(0, 0);
        due(9, "publish() into the freed one", x.publish(), 3);
        due(9, "tick()", x.tick(), 1);
        due(9, "state(0), still by the first table", x.state(0), 1);
        due(9, "state(1), by the third table", x.state(1), 2);
        due(9, "where(1)", x.where(1), 3);
        due(9, "publish() without packets of the active table", x.publish(), 2);
    }

    private static void publishFreesTheFirstTable() {
        FlowFabric x = ring();
        x.send(2, 0);
        for (int n = 0; n < 15; n++) {
            x.tick();
        }
        x.publish();
        x.send(2, 1);
        x.publish();
        x.send(2, 2);
        due(9, "publish() ahead of the first packet's end", x.publish(), BUSY);
        due(9, "tick()", x.tick(), 2);
        x.drop(0, 0);
        due(9, "publish() after the first packet's end", x.publish(), 3);
        due(9, "tick(), by the tables of the sending", x.tick(), 2);
    }

    private static void publishIsACopy() {
        FlowFabric x = new FlowFabric();
        x.add(3, ANY, 1, SAME);
        due(9, "end(12, 0) ahead of publish", x.end(12, 0), 1);
        x.publish();
        due(9, "end(12, 0)", x.end(12, 0), 113);
        x.drop(3, 0);
        due(9, "end(12, 0) after a staged change", x.end(12, 0), 113);
        due(9, "end(32, 0) after a staged change", x.end(32, 0), 1);
    }

    private static void revert() {
        FlowFabric x = new FlowFabric();
        x.add(0, match(63, 5), 2, SAME);
        x.add(4, ANY, 1, change(63, 9));
        x.add(4, ANY, 3, SAME);
        x.publish();
        x.drop(0, 0);
        x.move(4, 0, 1);
        x.add(2, ANY, 0, SAME);
        due(10, "revert()", x.revert(), 3);
        due(10, "rules(0)", x.rules(0), 1);
        due(10, "rules(2)", x.rules(2), 0);
        due(10, "rules(4)", x.rules(4), 2);
        due(10, "end(20, 5)", x.end(20, 5), 102);
        due(10, "end(20, 6)", x.end(20, 6), 1);
        due(10, "end(36, 0)", x.end(36, 0), 117);
        for (int place = 0; place < 20; place++) {
            due(10, "differing(" + place + ")", x.differing(place), 0);
        }
        x.drop(4, 0);
        due(10, "end(16, 0), the active table stands apart", x.end(16, 0), 117);
        due(10, "revert() again", x.revert(), 3);
        FlowFabric full = new FlowFabric();
        for (int n = 0; n < 30; n++) {
            full.add(n / 6, ANY, 0, SAME);
        }
        full.publish();
        due(10, "revert() of full lists", full.revert(), 30);
    }

    private static void send() {
        FlowFabric x = ring();
        for (int k = 0; k < 8; k++) {
            due(11, "send(2, " + k + ")", x.send(2, k), k);
        }
        due(11, "send of a ninth", x.send(2, 8), FULL);
        due(11, "send(0, 0), linked, with eight in flight", x.send(0, 0), BUSY);
        due(11, "send(0, 64), linked, header out of bounds", x.send(0, 64), BAD);
        due(11, "send(20, 0)", x.send(20, 0), BAD);
        due(11, "send(2, 64)", x.send(2, 64), BAD);
        for (int far : FAR) {
            due(11, "send(" + far + ", 0)", x.send(far, 0), BAD);
            due(11, "send(2, " + far + ")", x.send(2, far), BAD);
        }
        for (int k = 0; k < 8; k++) {
            due(11, "where(" + k + ")", x.where(k), 2);
            due(11, "header(" + k + ")", x.header(k), k);
            due(11, "state(" + k + ")", x.state(k), 1);
        }
    }

    private static void sendTakesTheLeastNumber() {
        FlowFabric x = new FlowFabric();
        x.link(0, 1);
        x.add(0, match(1, 1), 0, SAME);
        x.publish();
        x.send(2, 1);
        x.send(3, 0);
        x.send(2, 3);
        x.send(19, 63);
        due(11, "tick(), two are dropped", x.tick(), 2);
        due(11, "state(1)", x.state(1), 3);
        due(11, "send(18, 7)", x.send(18, 7), 1);
        due(11, "state(1), the earlier one forgotten", x.state(1), 1);
        due(11, "where(1)", x.where(1), 18);
        due(11, "header(1)", x.header(1), 7);
        due(11, "send(0, 7), linked", x.send(0, 7), BUSY);
        due(11, "send(0, 7) changes nothing", x.state(3), 3);
        due(11, "send(17, 8)", x.send(17, 8), 3);
        due(11, "send(16, 9)", x.send(16, 9), 4);
        due(11, "tick()", x.tick(), 2);
    }

    private static void sendCountsTreatmentsAnew() {
        FlowFabric x = ring();
        x.send(2, 0);
        for (int n = 0; n < 16; n++) {
            x.tick();
        }
        due(11, "state(0) after 16", x.state(0), 4);
        due(11, "send(3, 1)", x.send(3, 1), 0);
        for (int n = 1; n < 16; n++) {
            due(11, "tick() " + n, x.tick(), 1);
        }
        due(11, "tick() 16", x.tick(), 0);
    }

    private static void tick() {
        FlowFabric x = ring();
        due(12, "tick() of none", x.tick(), 0);
        x.send(2, 10);
        x.tick();
        x.send(3, 11);
        for (int n = 2; n < 16; n++) {
            due(12, "tick() " + n, x.tick(), 2);
            due(12, "state(0) after " + n, x.state(0), 1);
        }
        due(12, "tick() 16", x.tick(), 1);
        due(12, "state(0)", x.state(0), 4);
        due(12, "state(1)", x.state(1), 1);
        due(12, "where(0), lost where it has come in last", x.where(0), 1);
        due(12, "tick() 17", x.tick(), 0);
        due(12, "state(1)", x.state(1), 4);
        due(12, "tick() 18", x.tick(), 0);
    }

    private static void tickByTheTableOfTheSending() {
        FlowFabric x = new FlowFabric();
        x.link(1, 4);
        x.add(0, ANY, 1, change(1, 1));
        x.add(1, ANY, 2, change(2, 2));
        x.publish();
        x.send(0, 0);
        x.drop(0, 0);
        x.drop(1, 0);
        x.publish();
        due(12, "tick()", x.tick(), 1);
        due(12, "where(0)", x.where(0), 4);
        due(12, "header(0)", x.header(0), 1);
        due(12, "tick()", x.tick(), 0);
        due(12, "state(0)", x.state(0), 2);
        due(12, "where(0)", x.where(0), 6);
        due(12, "header(0)", x.header(0), 3);
        due(12, "send(0, 0) by the empty table", x.send(0, 0), 0);
        due(12, "tick()", x.tick(), 0);
        due(12, "state(0)", x.state(0), 3);
    }

    private static void tickByTheLinksOfNow() {
        FlowFabric x = new FlowFabric();
        x.add(0, ANY, BACK, SAME);
        x.add(1, ANY, BACK, SAME);
        x.publish();
        x.send(0, 0);
        x.link(0, 7);
        due(12, "tick()", x.tick(), 1);
        due(12, "where(0)", x.where(0), 7);
        due(12, "tick()", x.tick(), 1);
        due(12, "where(0)", x.where(0), 0);
        x.unlink(7);
        due(12, "tick()", x.tick(), 0);
        due(12, "state(0)", x.state(0), 2);
        due(12, "where(0)", x.where(0), 0);
    }

    private static void delivered16thTime() {
        FlowFabric x = ring();
        x.send(2, 0);
        for (int n = 0; n < 15; n++) {
            x.tick();
        }
        x.unlink(0);
        due(12, "tick() 16", x.tick(), 0);
        due(13, "state(0), delivered by the 16th treatment", x.state(0), 2);
        due(14, "where(0)", x.where(0), 0);
    }

    private static void state() {
        FlowFabric x = new FlowFabric();
        x.link(0, 1);
        x.add(0, match(3, 0), 0, SAME);
        x.add(0, match(3, 1), 3, SAME);
        x.add(0, match(3, 2), DROP, SAME);
        x.publish();
        x.send(2, 0);
        x.send(2, 1);
        x.send(2, 2);
        x.send(2, 3);
        for (int k = 0; k < 8; k++) {
            due(13, "state(" + k + ")", x.state(k), k < 4 ? 1 : 0);
        }
        for (int n = 0; n < 16; n++) {
            x.tick();
        }
        int[] want = {4, 2, 3, 3, 0, 0, 0, 0};
        for (int k = 0; k < 8; k++) {
            due(13, "state(" + k + ")", x.state(k), want[k]);
        }
        due(13, "state(8)", x.state(8), BAD);
        for (int far : FAR) {
            due(13, "state(" + far + ")", x.state(far), BAD);
        }
    }

    private static void whereAndHeader() {
        FlowFabric x = new FlowFabric();
        x.link(1, 4);
        x.add(0, ANY, 1, change(60, 40));
        x.add(1, match(1, 0), DROP, change(63, 63));
        x.add(1, match(2, 0), 3, change(3, 2));
        x.publish();
        x.send(3, 0);
        x.send(3, 1);
        x.send(3, 3);
        due(14, "where(0) ahead of a tick", x.where(0), 3);
        due(15, "header(0) ahead of a tick", x.header(0), 0);
        x.tick();
        for (int k = 0; k < 3; k++) {
            due(14, "where(" + k + ") in flight", x.where(k), 4);
        }
        due(15, "header(0) in flight", x.header(0), 40);
        due(15, "header(1) in flight", x.header(1), 41);
        due(15, "header(2) in flight", x.header(2), 43);
        x.tick();
        due(14, "where(0), dropped by a rule", x.where(0), 4);
        due(15, "header(0), dropped by a rule", x.header(0), 40);
        due(14, "where(1), delivered", x.where(1), 7);
        due(15, "header(1), delivered", x.header(1), 42);
        due(14, "where(2), dropped by none", x.where(2), 4);
        due(15, "header(2), dropped by none", x.header(2), 43);
        due(14, "where(3)", x.where(3), NONE);
        due(15, "header(3)", x.header(3), NONE);
        due(14, "where(8)", x.where(8), BAD);
        due(15, "header(8)", x.header(8), BAD);
        for (int far : FAR) {
            due(14, "where(" + far + ")", x.where(far), BAD);
            due(15, "header(" + far + ")", x.header(far), BAD);
        }
    }

    /**
     * Two switches by which a header counts down in its high two bits (rules of switch 0), crossing a link to
     * switch 1 and back; at 0 it is delivered at port 3 of switch 0.
     */
    private static FlowFabric countdown() {
        FlowFabric x = new FlowFabric();
        x.link(0, 4);
        x.add(0, match(48, 0), 3, SAME);
        x.add(0, match(48, 16), 0, change(48, 0));
        x.add(0, match(48, 32), 0, change(48, 16));
        x.add(0, match(52, 48), DROP, SAME);
        x.add(0, match(48, 48), 0, SAME);
        x.add(1, ANY, BACK, SAME);
        return x;
    }

    private static void end() {
        FlowFabric x = countdown();
        due(16, "end(0, 0) by the active table", x.end(0, 0), 1);
        due(16, "end(20, 0) by the staged table", x.end(20, 0), 103);
        x.publish();
        due(16, "end(0, 0)", x.end(0, 0), 103);
        due(16, "end(2, 47)", x.end(2, 47), 103);
        due(16, "end(2, 48)", x.end(2, 48), 1);
        due(16, "end(2, 63)", x.end(2, 63), 2);
        due(16, "end(39, 0)", x.end(39, 0), 1);
        due(16, "end(5, 0), back to a host", x.end(5, 0), 105);
        due(16, "end(40, 0)", x.end(40, 0), BAD);
        due(16, "end(0, 64)", x.end(0, 64), BAD);
        for (int far : FAR) {
            due(16, "end(" + far + ", 0)", x.end(far, 0), BAD);
            due(16, "end(0, " + far + ")", x.end(0, far), BAD);
        }
        x.unlink(4);
        due(16, "end(2, 63) without the link", x.end(2, 63), 100);
        due(16, "end(22, 63) without the link", x.end(22, 63), 100);
    }

    /** A packet goes round at switch 0 once for each of its low five bits, which are taken away one by one. */
    private static FlowFabric longWay() {
        FlowFabric x = new FlowFabric();
        x.link(0, 1);
        for (int bit = 0; bit < 5; bit++) {
            x.add(0, match(1 << bit, 1 << bit), 0, change(1 << bit, 0));
        }
        x.add(0, match(31, 0), 3, SAME);
        return x;
    }

    private static void arriving() {
        FlowFabric x = longWay();
        due(17, "arriving(20, 3)", x.arriving(20, 3), 64);
        due(17, "arriving(0, 3)", x.arriving(0, 3), 0);
        x.publish();
        due(17, "arriving(0, 3)", x.arriving(0, 3), 64);
        due(17, "arriving(0, 2)", x.arriving(0, 2), 0);
        x.unlink(0);
        due(17, "arriving(1, 0)", x.arriving(1, 0), 62);
        due(17, "arriving(1, 3)", x.arriving(1, 3), 2);
        due(17, "arriving(4, 3)", x.arriving(4, 3), 0);
        due(17, "arriving(40, 3)", x.arriving(40, 3), BAD);
        due(17, "arriving(39, 19)", x.arriving(39, 19), 0);
        due(17, "arriving(0, 20)", x.arriving(0, 20), BAD);
        for (int far : FAR) {
            due(17, "arriving(" + far + ", 0)", x.arriving(far, 0), BAD);
            due(17, "arriving(0, " + far + ")", x.arriving(0, far), BAD);
        }
    }

    private static void nextArriving() {
        FlowFabric x = new FlowFabric();
        x.add(2, match(31, 5), 0, change(63, 1));
        x.add(2, match(63, 63), 0, SAME);
        x.add(2, match(63, 0), 1, SAME);
        x.publish();
        due(18, "nextArriving(8, 8, MIN)", x.nextArriving(8, 8, Integer.MIN_VALUE), 5);
        due(18, "nextArriving(8, 8, 4)", x.nextArriving(8, 8, 4), 5);
        due(18, "nextArriving(8, 8, 5)", x.nextArriving(8, 8, 5), 37);
        due(18, "nextArriving(8, 8, 37)", x.nextArriving(8, 8, 37), 63);
        due(18, "nextArriving(8, 8, 62)", x.nextArriving(8, 8, 62), 63);
        due(18, "nextArriving(8, 8, 63)", x.nextArriving(8, 8, 63), NONE);
        due(18, "nextArriving(8, 8, MAX)", x.nextArriving(8, 8, Integer.MAX_VALUE), NONE);
        due(18, "nextArriving(8, 9, -1)", x.nextArriving(8, 9, -1), 0);
        due(18, "nextArriving(8, 9, 0)", x.nextArriving(8, 9, 0), NONE);
        x.add(3, ANY, 0, SAME);
        due(18, "nextArriving(32, 12, 62), every header arrives", x.nextArriving(32, 12, 62), 63);
        due(18, "nextArriving(32, 12, 63), every header arrives", x.nextArriving(32, 12, 63), NONE);
        x.drop(2, 0);
        due(18, "nextArriving(28, 8, -1)", x.nextArriving(28, 8, -1), 63);
        due(18, "nextArriving(39, 19, -1)", x.nextArriving(39, 19, -1), NONE);
        due(18, "nextArriving(40, 8, 0)", x.nextArriving(40, 8, 0), BAD);
        due(18, "nextArriving(8, 20, 0)", x.nextArriving(8, 20, 0), BAD);
        for (int far : FAR) {
            due(18, "nextArriving(" + far + ", 0, 0)", x.nextArriving(far, 0, 0), BAD);
            due(18, "nextArriving(0, " + far + ", 0)", x.nextArriving(0, far, 0), BAD);
        }
    }

    private static void ending() {
        FlowFabric x = countdown();
        due(19, "ending(0, 0)", x.ending(0, 0), 64);
        due(19, "ending(0, 1)", x.ending(0, 1), 0);
        due(19, "ending(20, 0)", x.ending(20, 0), 8);
        due(19, "ending(20, 1)", x.ending(20, 1), 8);
        x.publish();
        due(19, "ending(0, 0)", x.ending(0, 0), 8);
        due(19, "ending(0, 1)", x.ending(0, 1), 8);
        due(19, "ending(39, 0)", x.ending(39, 0), 64);
        due(19, "ending(40, 0)", x.ending(40, 0), BAD);
        due(19, "ending(0, 2)", x.ending(0, 2), BAD);
        for (int far : FAR) {
            due(19, "ending(" + far + ", 0)", x.ending(far, 0), BAD);
            due(19, "ending(0, " + far + ")", x.ending(0, far), BAD);
        }
    }

    /**
     * A header's low three bits count down the rounds between switches 0 and 1, of two treatments each; then it goes
     * to switch 2. With seven rounds the treatment there is the 16th.
     */
    private static FlowFabric edgeOf16(int after) {
        FlowFabric x = new FlowFabric();
        x.link(0, 4);
        x.link(3, 8);
        x.add(0, match(1, 1), 0, change(1, 0));
        x.add(0, match(3, 2), 0, change(3, 1));
        x.add(0, match(7, 4), 0, change(7, 3));
        x.add(0, match(7, 0), 3, SAME);
        x.add(1, ANY, BACK, SAME);
        x.add(2, ANY, after, SAME);
        return x;
    }

    private static void lostAtTheEdge() {
        FlowFabric delivered = edgeOf16(1);
        due(16, "end(21, 7), delivered by the 16th", delivered.end(21, 7), 109);
        due(16, "end(21, 0)", delivered.end(21, 0), 109);
        due(17, "arriving(21, 9)", delivered.arriving(21, 9), 64);
        due(20, "visiting(21, 2), after 15", delivered.visiting(21, 2), 64);
        FlowFabric dropped = edgeOf16(DROP);
        due(16, "end(21, 7), dropped by the 16th", dropped.end(21, 7), 1);
        due(19, "ending(21, 0)", dropped.ending(21, 0), 64);
        FlowFabric lost = edgeOf16(1);
        lost.link(9, 12);
        lost.add(3, ANY, 2, SAME);
        due(16, "end(21, 7), lost", lost.end(21, 7), 2);
        due(16, "end(21, 6), two treatments less", lost.end(21, 6), 114);
        due(19, "ending(21, 1)", lost.ending(21, 1), 8);
        due(17, "arriving(21, 14)", lost.arriving(21, 14), 56);
        due(20, "visiting(21, 2), after 15", lost.visiting(21, 2), 64);
        due(20, "visiting(21, 3), not after 16", lost.visiting(21, 3), 56);
        lost.publish();
        lost.send(1, 7);
        for (int n = 1; n < 16; n++) {
            due(12, "tick() " + n, lost.tick(), 1);
        }
        due(14, "where(0) after 15", lost.where(0), 8);
        due(12, "tick() 16", lost.tick(), 0);
        due(13, "state(0)", lost.state(0), 4);
        due(14, "where(0), lost, has come in last", lost.where(0), 12);
        due(15, "header(0)", lost.header(0), 0);
    }

    private static void visiting() {
        FlowFabric x = countdown();
        due(20, "visiting(0, 0), the first place", x.visiting(0, 0), 64);
        due(20, "visiting(0, 1) by the active table", x.visiting(0, 1), 0);
        due(20, "visiting(20, 1) by the staged table", x.visiting(20, 1), 40);
        x.publish();
        due(20, "visiting(0, 1)", x.visiting(0, 1), 40);
        due(20, "visiting(4, 0), through the link", x.visiting(4, 0), 64);
        due(20, "visiting(5, 0), delivered at once", x.visiting(5, 0), 0);
        due(20, "visiting(39, 4)", x.visiting(39, 4), 64);
        x.unlink(0);
        due(20, "visiting(0, 1), delivered is not come in", x.visiting(0, 1), 0);
        due(20, "visiting(40, 0)", x.visiting(40, 0), BAD);
        due(20, "visiting(0, 5)", x.visiting(0, 5), BAD);
        for (int far : FAR) {
            due(20, "visiting(" + far + ", 0)", x.visiting(far, 0), BAD);
            due(20, "visiting(0, " + far + ")", x.visiting(0, far), BAD);
        }
    }

    private static void differing() {
        FlowFabric x = countdown();
        due(21, "differing(0)", x.differing(0), 56);
        due(21, "differing(19)", x.differing(19), 0);
        x.publish();
        due(21, "differing(0) of the same", x.differing(0), 0);
        x.move(0, 4, 3);
        due(21, "differing(0), 8 lost, not dropped", x.differing(0), 8);
        x.add(4, match(63, 0), 0, SAME);
        due(21, "differing(16)", x.differing(16), 1);
        x.publish();
        x.drop(4, 0);
        x.add(4, match(63, 0), 0, change(63, 63));
        due(21, "differing(16), another header at the same place", x.differing(16), 0);
        due(21, "differing(20)", x.differing(20), BAD);
        for (int far : FAR) {
            due(21, "differing(" + far + ")", x.differing(far), BAD);
        }
    }

    private static void deciding() {
        FlowFabric x = new FlowFabric();
        x.add(4, match(1, 1), 0, SAME);
        x.add(4, match(2, 2), DROP, SAME);
        x.add(4, match(3, 3), 1, SAME);
        x.add(4, match(63, 4), 1, SAME);
        x.add(4, match(0, 63), 1, SAME);
        x.add(4, ANY, 1, SAME);
        int[] want = {32, 16, 0, 1, 15, 0};
        for (int i = 0; i < 6; i++) {
            due(22, "deciding(4, " + i + ")", x.deciding(4, i), want[i]);
        }
        x.move(4, 2, 0);
        due(22, "deciding(4, 0) after a move", x.deciding(4, 0), 16);
        due(22, "deciding(4, 1) after a move", x.deciding(4, 1), 16);
        x.drop(4, 5);
        due(22, "deciding(4, 5)", x.deciding(4, 5), BAD);
        due(22, "deciding(5, 0)", x.deciding(5, 0), BAD);
        due(22, "deciding(0, 0), no rule", x.deciding(0, 0), BAD);
        for (int far : FAR) {
            due(22, "deciding(" + far + ", 0)", x.deciding(far, 0), BAD);
            due(22, "deciding(4, " + far + ")", x.deciding(4, far), BAD);
        }
    }

    private static int needlessOfTwo(int match, int action, int change, int action2, int change2) {
        FlowFabric x = new FlowFabric();
        x.add(3, match, action, change);
        x.add(3, ANY, action2, change2);
        return x.needless(3, 0);
    }

    private static void needless() {
        due(23, "the same rule later", needlessOfTwo(match(1, 1), 2, SAME, 2, SAME), 1);
        due(23, "another port later", needlessOfTwo(match(63, 0), 2, SAME, 1, SAME), 0);
        due(23, "another header later", needlessOfTwo(match(63, 0), 2, SAME, 2, change(1, 1)), 0);
        due(23, "another change, but the same header", needlessOfTwo(match(1, 1), 2, SAME, 2, change(1, 1)), 1);
        due(23, "back and a port", needlessOfTwo(ANY, BACK, SAME, 2, SAME), 0);
        due(23, "a port and back", needlessOfTwo(ANY, 3, SAME, BACK, SAME), 0);
        due(23, "back and back", needlessOfTwo(ANY, BACK, SAME, BACK, SAME), 1);
        due(23, "dropped with other changes", needlessOfTwo(ANY, DROP, SAME, DROP, change(63, 7)), 1);
        due(23, "dropped and sent", needlessOfTwo(match(63, 63), DROP, SAME, 0, SAME), 0);
        FlowFabric x = new FlowFabric();
        x.add(2, match(1, 1), 0, SAME);
        x.add(2, match(3, 3), 1, SAME);
        x.add(2, match(4, 4), DROP, change(63, 1));
        due(23, "needless(2, 0)", x.needless(2, 0), 0);
        due(23, "needless(2, 1), decides nothing", x.needless(2, 1), 1);
        due(23, "needless(2, 2), drops as none does", x.needless(2, 2), 1);
        x.link(8, 9);
        due(23, "needless(2, 1), linked", x.needless(2, 1), 1);
        due(23, "needless(2, 0), linked", x.needless(2, 0), 0);
        x.add(4, ANY, DROP, SAME);
        due(23, "needless(4, 0), the last switch", x.needless(4, 0), 1);
        due(23, "rules(2), the rule is still there", x.rules(2), 3);
        due(23, "needless(2, 3)", x.needless(2, 3), BAD);
        due(23, "needless(5, 0)", x.needless(5, 0), BAD);
        due(23, "needless(0, 0), no rule", x.needless(0, 0), BAD);
        for (int far : FAR) {
            due(23, "needless(" + far + ", 0)", x.needless(far, 0), BAD);
            due(23, "needless(2, " + far + ")", x.needless(2, far), BAD);
        }
    }

    private static void needlessAsksForOneTreatment() {
        FlowFabric x = new FlowFabric();
        x.link(0, 4);
        x.link(1, 5);
        x.add(0, match(1, 1), 0, SAME);
        x.add(0, ANY, 1, SAME);
        x.add(1, ANY, DROP, SAME);
        due(23, "needless(0, 0), the same end by another port", x.needless(0, 0), 0);
    }

    private static void questionsOfBothTables() {
        FlowFabric x = new FlowFabric();
        x.link(1, 4);
        x.add(0, ANY, 1, SAME);
        x.add(1, ANY, 2, SAME);
        x.publish();
        x.drop(1, 0);
        x.add(1, match(1, 0), 3, SAME);
        due(24, "end(0, 0)", x.end(0, 0), 106);
        due(24, "end(20, 0)", x.end(20, 0), 107);
        due(24, "end(20, 1)", x.end(20, 1), 1);
        due(24, "end(4, 0), from a linked place", x.end(4, 0), 106);
        due(24, "end(24, 0), from a linked place", x.end(24, 0), 107);
        due(24, "arriving(0, 6)", x.arriving(0, 6), 64);
        due(24, "arriving(20, 7)", x.arriving(20, 7), 32);
        due(24, "nextArriving(20, 7, 0)", x.nextArriving(20, 7, 0), 2);
        due(24, "nextArriving(0, 6, 0)", x.nextArriving(0, 6, 0), 1);
        due(24, "ending(20, 0)", x.ending(20, 0), 32);
        due(24, "ending(0, 0)", x.ending(0, 0), 0);
        due(24, "visiting(20, 1)", x.visiting(20, 1), 64);
        due(24, "visiting(0, 1)", x.visiting(0, 1), 64);
        x.unlink(1);
        due(24, "end(0, 0), links of now", x.end(0, 0), 101);
        due(24, "end(20, 1), links of now", x.end(20, 1), 101);
        due(24, "visiting(20, 1), links of now", x.visiting(20, 1), 0);
        x.send(0, 0);
        x.revert();
        x.drop(0, 0);
        x.publish();
        due(24, "end(0, 0) by the table of now, with a packet by another", x.end(0, 0), 1);
        due(24, "end(20, 0)", x.end(20, 0), 1);
    }

    public static void main(String[] args) {
        newObject();
        objectsAreApart();
        link();
        unlink();
        linked();
        add();
        addedRuleMatchesAndChanges();
        drop();
        move();
        rules();
        publish();
        publishFreesTheMiddleTable();
        publishFreesTheFirstTable();
        publishIsACopy();
        revert();
        send();
        sendTakesTheLeastNumber();
        sendCountsTreatmentsAnew();
        tick();
        tickByTheTableOfTheSending();
        tickByTheLinksOfNow();
        delivered16thTime();
        state();
        whereAndHeader();
        end();
        arriving();
        nextArriving();
        ending();
        lostAtTheEdge();
        visiting();
        differing();
        deciding();
        needless();
        needlessAsksForOneTreatment();
        questionsOfBothTables();
        System.out.println(checks + " answers looked at, " + wrong + " wrong");
        if (wrong > 0) {
            System.exit(1);
        }
    }
}
