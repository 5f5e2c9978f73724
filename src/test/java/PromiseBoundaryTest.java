/** Promise by promise, each sentence that names a refusal or an empty answer, on both sides of its boundary. */
public final class PromiseBoundaryTest {
    private static final int BAD = -1;
    private static final int NONE = -2;
    private static final int FULL = -3;
    private static final int EXISTS = -4;
    private static final int BUSY = -5;
    private static final int LEAST = Integer.MIN_VALUE;
    private static final int GREATEST = Integer.MAX_VALUE;

    /** The frame with id 0 and no data has 50 bits; its 20th breaks it off when it is disturbed. */
    private static final int ZERO_BITS = 50;
    private static final int ZERO_TENDER_BIT = 20;
    private static final int COMPLAINT = 14;
    private static final int PAUSE = 3;

    private static String sentence = "";
    private static int asked = 0;
    private static int wrong = 0;

    private static WireNetwork newFor(String theSentence) {
        sentence = theSentence;
        return new WireNetwork();
    }

    private static void due(String what, long got, long want) {
        asked++;
        if (got != want) {
            wrong++;
            System.out.println(sentence + ": " + what + " answered " + got + ", due is " + want);
        }
    }

    private static int code(int node, int id) {
        return 2048 * node + id;
    }

    private static void putOff(WireNetwork x, int node) {
        x.post(code(node, 0), 0, 0L);
        for (int i = 0; i < 32; i++) {
            x.disturb(ZERO_TENDER_BIT);
            x.run(ZERO_TENDER_BIT + COMPLAINT + PAUSE);
        }
        x.cancel(0);
    }

    private static void send(WireNetwork x, int node, int id, int length, long data) {
        x.post(code(node, id), length, data);
        x.run(200);
    }

    private static void newObject() {
        WireNetwork x = newFor("1: time is 0, the wire idle, nothing waits");
        due("time()", x.time(), 0);
        due("wire()", x.wire(), 0);
        due("underWay()", x.underWay(), NONE);
        due("sent()", x.sent(), 0);
        for (int node = 0; node < 4; node++) {
            due("waiting(" + node + ")", x.waiting(node), 0);
            due("received(" + node + ")", x.received(node), 0);
            due("missed(" + node + ")", x.missed(node), 0);
        }
        due("no disturbance is to come", x.post(0, 0, 0L) + x.run(ZERO_BITS), 2);
    }

    private static void postCode() {
        WireNetwork x = newFor("2: code is not 0 .. 8191: BAD");
        due("the least int", x.post(LEAST, 0, 0L), BAD);
        due("-8192", x.post(-8192, 0, 0L), BAD);
        due("-2048", x.post(-2048, 0, 0L), BAD);
        due("-1", x.post(-1, 0, 0L), BAD);
        due("0", x.post(0, 0, 0L), 1);
        due("8191", x.post(8191, 0, 0L), 1);
        due("8192", x.post(8192, 0, 0L), BAD);
        due("8193", x.post(8193, 0, 0L), BAD);
        due("the greatest int", x.post(GREATEST, 0, 0L), BAD);
        due("0 is of node 0", x.cancel(0), 0);
        due("8191 is of node 3", x.cancel(2047), 3);
        due("2047", x.post(2047, 0, 0L), 1);
        due("2047 is of node 0", x.cancel(2047), 0);
        due("2048", x.post(2048, 0, 0L), 1);
        due("2048 is of node 1", x.cancel(0), 1);
        due("4095", x.post(4095, 0, 0L), 1);
        due("4095 is of node 1", x.cancel(2047), 1);
        due("4096", x.post(4096, 0, 0L), 1);
        due("4096 is of node 2", x.cancel(0), 2);
        due("6143", x.post(6143, 0, 0L), 1);
        due("6143 is of node 2", x.cancel(2047), 2);
        due("6144", x.post(6144, 0, 0L), 1);
        due("6144 is of node 3", x.cancel(0), 3);
    }

    private static void postLength() {
        WireNetwork x = newFor("2: length not 0 .. 8: BAD");
        due("the least int", x.post(1, LEAST, 0L), BAD);
        due("-1", x.post(1, -1, 0L), BAD);
        due("9", x.post(1, 9, 0L), BAD);
        due("the greatest int", x.post(1, GREATEST, 0L), BAD);
        due("waiting(0)", x.waiting(0), 0);
        due("0", x.post(1, 0, 0L), 1);
        due("8", x.post(2, 8, 0L), 2);
    }

    private static void postData() {
        sentence = "2: of data the lowest length bytes count";
        long data = 0xf1f2f3f4f5f6f7f8L;
        long[] kept = {0x0L, 0xf8L, 0xf7f8L, 0xf6f7f8L, 0xf5f6f7f8L, 0xf4f5f6f7f8L, 0xf3f4f5f6f7f8L,
            0xf2f3f4f5f6f7f8L, 0xf1f2f3f4f5f6f7f8L};
        for (int length = 0; length <= 8; length++) {
            WireNetwork x = new WireNetwork();
            send(x, 0, 1000, length, data);
            due("length " + length + ": frameAt", x.frameAt(1, 0), 16 * 1000 + length);
            due("length " + length + ": dataAt", x.dataAt(1, 0), kept[length]);
            due("length " + length + ": bits", x.bitsOf(1000, length, data), x.bitsOf(1000, length, kept[length]));
        }
    }

    private static void postFirstByte() {
        WireNetwork x = newFor("2: the highest of these being the first of the frame");
        // These two have other numbers of bits when their bytes go the other way round.
        due("0x1234", x.bitsOf(300, 2, 0x1234L), 61);
        due("the highest bit of eight bytes", x.bitsOf(1024, 8, Long.MIN_VALUE), 122);
        x.post(code(0, 300), 2, 0x1234L);
        due("0x1234 before its last bit", x.run(60), 0);
        due("0x1234 with its last bit", x.run(1), 1);
        WireNetwork y = new WireNetwork();
        y.post(code(0, 1024), 8, Long.MIN_VALUE);
        due("the highest bit before its last bit", y.run(121), 0);
        due("the highest bit with its last bit", y.run(1), 1);
    }

    private static void postExists() {
        WireNetwork x = newFor("2: a frame with the id waits somewhere: EXISTS");
        due("none waits", x.post(code(1, 5), 0, 0L), 1);
        due("in the same node", x.post(code(1, 5), 3, 7L), EXISTS);
        due("in node 0", x.post(code(0, 5), 0, 0L), EXISTS);
        due("in node 2", x.post(code(2, 5), 0, 0L), EXISTS);
        due("in node 3", x.post(code(3, 5), 0, 0L), EXISTS);
        due("one id less", x.post(code(3, 4), 0, 0L), 1);
        due("one id more", x.post(code(3, 6), 0, 0L), 2);
        due("sent", x.run(500), 3);
        due("no longer waiting", x.post(code(2, 5), 0, 0L), 1);
        due("but again", x.post(code(1, 5), 0, 0L), EXISTS);
        due("cancelled", x.cancel(5), 2);
        due("no longer waiting", x.post(code(1, 5), 0, 0L), 1);
        due("an id in an inbox alone doesn't count", x.post(code(0, 4), 0, 0L), 1);
    }

    private static void postExistsAtLaterPlaces() {
        WireNetwork x = newFor("2: a frame with the id waits somewhere: EXISTS (at each place of a node)");
        for (int i = 0; i < 4; i++) {
            x.post(code(3, 100 + i), 0, 0L);
            due("place " + i, x.post(code(0, 100 + i), 0, 0L), EXISTS);
        }
        due("place 1 is taken away", x.cancel(101), 3);
        due("its id is free", x.post(code(0, 101), 0, 0L), 1);
        due("the others wait: 100", x.post(code(0, 100), 0, 0L), EXISTS);
        due("the others wait: 102", x.post(code(0, 102), 0, 0L), EXISTS);
        due("the others wait: 103", x.post(code(0, 103), 0, 0L), EXISTS);
        due("the last is taken away", x.cancel(103), 3);
        due("what stood there is forgotten", x.post(code(0, 103), 0, 0L), 2);
    }

    private static void postFull() {
        WireNetwork x = newFor("2: four wait in the node: FULL. Else answers how many wait in it then.");
        for (int node = 0; node < 4; node++) {
            int first = 10 * node;
            due("none waits", x.post(code(node, first), 0, 0L), 1);
            due("one waits", x.post(code(node, first + 1), 0, 0L), 2);
            due("two wait", x.post(code(node, first + 2), 0, 0L), 3);
            due("three wait", x.post(code(node, first + 3), 0, 0L), 4);
            due("four wait", x.post(code(node, first + 4), 0, 0L), FULL);
            due("still four", x.post(code(node, first + 5), 0, 0L), FULL);
        }
        due("one is taken away", x.cancel(12), 1);
        due("three wait", x.post(code(1, 14), 0, 0L), 4);
        due("four wait", x.post(code(1, 15), 0, 0L), FULL);
    }

    private static void postInNodeThatIsOff() {
        WireNetwork x = newFor("2: Nodes that are off may have frames waiting.");
        putOff(x, 2);
        for (int i = 1; i <= 4; i++) {
            due("frame " + i, x.post(code(2, i), 0, 0L), i);
        }
        due("frame 5", x.post(code(2, 5), 0, 0L), FULL);
        due("none is sent", x.run(500), 0);
        due("cancel(1)", x.cancel(1), 2);
        due("frame 5", x.post(code(2, 5), 0, 0L), 4);
        due("restart(2)", x.restart(2), 1);
        due("all are sent", x.run(500), 4);
    }

    private static void cancelId() {
        WireNetwork x = newFor("3: id is not good: BAD");
        x.post(code(1, 0), 0, 0L);
        x.post(code(2, 2047), 0, 0L);
        due("the least int", x.cancel(LEAST), BAD);
        due("-1", x.cancel(-1), BAD);
        due("2048", x.cancel(2048), BAD);
        due("2048 + 2047", x.cancel(4095), BAD);
        due("the greatest int", x.cancel(GREATEST), BAD);
        due("0", x.cancel(0), 1);
        due("2047", x.cancel(2047), 2);
    }

    private static void cancelNone() {
        WireNetwork x = newFor("3: none with it waits: NONE");
        due("nothing waits: 0", x.cancel(0), NONE);
        due("nothing waits: 2047", x.cancel(2047), NONE);
        x.post(code(0, 5), 0, 0L);
        due("one id less", x.cancel(4), NONE);
        due("one id more", x.cancel(6), NONE);
        due("the one that waits", x.cancel(5), 0);
        due("taken away", x.cancel(5), NONE);
        send(x, 0, 7, 0, 0L);
        due("sent", x.cancel(7), NONE);
        due("it is in the inbox", x.frameAt(1, 0), 16 * 7);
    }

    private static void cancelAnswersTheNode() {
        WireNetwork x = newFor("3: Else answers the node in which it waited.");
        for (int node = 0; node < 4; node++) {
            for (int i = 0; i < 4; i++) {
                x.post(code(node, 10 * node + i), 0, 0L);
            }
        }
        int[] places = {3, 0, 2, 1};
        for (int node = 3; node >= 0; node--) {
            for (int i = 0; i < 4; i++) {
                due("place " + places[i] + " of node " + node, x.cancel(10 * node + places[i]), node);
                due("waiting(" + node + ")", x.waiting(node), 3 - i);
            }
        }
        due("nothing is left to send", x.run(500), 0);
    }

    private static void cancelLeavesTheOthers() {
        sentence = "3: Takes a waiting frame away (and leaves the others)";
        for (int taken = 0; taken < 4; taken++) {
            WireNetwork x = new WireNetwork();
            for (int i = 0; i < 4; i++) {
                x.post(code(2, 50 + i), i + 1, 0x04030201L + i);
            }
            due("cancel(" + (50 + taken) + ")", x.cancel(50 + taken), 2);
            due("three are sent", x.run(1000), 3);
            long[] data = {0x01L, 0x0202L, 0x030203L, 0x04030204L};
            int place = 0;
            for (int i = 0; i < 4; i++) {
                if (i != taken) {
                    due("frameAt(1, " + place + ")", x.frameAt(1, place), 16 * (50 + i) + i + 1);
                    due("dataAt(1, " + place + ")", x.dataAt(1, place), data[i]);
                    place++;
                }
            }
        }
    }

    private static void cancelBusy() {
        WireNetwork x = newFor("3: it is under way: BUSY");
        x.post(code(1, 0), 0, 0L);
        x.post(code(1, 1), 0, 0L);
        x.run(1);
        due("its first bit has gone by", x.cancel(0), BUSY);
        due("one that is not under way", x.cancel(1), 1);
        x.run(ZERO_BITS - 2);
        due("its last bit is to come", x.cancel(0), BUSY);
        due("it is sent all the same", x.run(1), 1);
        due("its last bit has gone by", x.cancel(0), NONE);
        WireNetwork y = new WireNetwork();
        y.post(code(2, 0), 0, 0L);
        due("its first bit is to come", y.cancel(0), 2);
        y.post(code(2, 0), 0, 0L);
        y.disturb(ZERO_TENDER_BIT);
        y.run(ZERO_TENDER_BIT - 1);
        due("the bit that breaks it off is to come", y.cancel(0), BUSY);
        y.run(1);
        due("broken off", y.cancel(0), 2);
        due("it does not begin again", y.run(200), 0);
    }

    private static void filterRanges() {
        WireNetwork x = newFor("4: node is not good, mask or value is not 0 .. 2047: BAD. Else answers 0.");
        int[] badNodes = {LEAST, -1, 4, GREATEST};
        for (int node : badNodes) {
            due("node " + node, x.filter(node, 0, 0), BAD);
        }
        int[] bad = {LEAST, -1, 2048, 4095, GREATEST};
        for (int number : bad) {
            due("mask " + number, x.filter(1, number, 0), BAD);
            due("value " + number, x.filter(1, 0, number), BAD);
        }
        for (int node = 0; node < 4; node++) {
            due("node " + node + ", least", x.filter(node, 0, 0), 0);
            due("node " + node + ", greatest mask", x.filter(node, 2047, 0), 0);
            due("node " + node + ", greatest value", x.filter(node, 0, 2047), 0);
            due("node " + node + ", both", x.filter(node, 2047, 2047), 0);
        }
        send(x, 0, 2046, 0, 0L);
        due("2046 doesn't pass", x.received(1) + x.received(2) + x.received(3), 0);
        send(x, 0, 2047, 0, 0L);
        due("2047 passes", x.received(1) + x.received(2) + x.received(3), 3);
        x.filter(1, 2047, 0);
        send(x, 0, 1, 0, 0L);
        due("1 doesn't pass for 0", x.received(1), 1);
        send(x, 0, 0, 0, 0L);
        due("0 passes", x.received(1), 2);
    }

    private static void restartNode() {
        WireNetwork x = newFor("5: node is not good: BAD. Else answers 1 if it was off, else 0.");
        due("the least int", x.restart(LEAST), BAD);
        due("-1", x.restart(-1), BAD);
        due("0", x.restart(0), 0);
        due("1", x.restart(1), 0);
        due("2", x.restart(2), 0);
        due("3", x.restart(3), 0);
        due("4", x.restart(4), BAD);
        due("the greatest int", x.restart(GREATEST), BAD);
        for (int node = 0; node < 4; node++) {
            WireNetwork y = new WireNetwork();
            putOff(y, node);
            due("off: " + node, y.restart(node), 1);
            due("isOn", y.isOn(node), 1);
            due("on: " + node, y.restart(node), 0);
        }
    }

    private static void restartBusy() {
        WireNetwork x = newFor("5: a frame is under way, or there is complaint: BUSY");
        x.post(code(0, 0), 0, 0L);
        due("one waits, its first bit is to come", x.restart(0), 0);
        x.run(1);
        due("its first bit has gone by", x.restart(0), BUSY);
        due("another node", x.restart(3), BUSY);
        x.run(ZERO_BITS - 2);
        due("its last bit is to come", x.restart(1), BUSY);
        x.run(1);
        due("in the pause, the first bit time", x.restart(1), 0);
        x.run(2);
        due("in the pause, the last bit time", x.restart(1), 0);
        x.run(1);
        due("idle", x.restart(1), 0);
        x.post(code(0, 0), 0, 0L);
        x.disturb(ZERO_TENDER_BIT);
        x.run(ZERO_TENDER_BIT);
        due("the first bit time of complaint", x.restart(0), BUSY);
        due("another node", x.restart(2), BUSY);
        x.run(COMPLAINT - 1);
        due("the last bit time of complaint", x.restart(0), BUSY);
        due("another node", x.restart(2), BUSY);
        due("sendErrors(0)", x.sendErrors(0), 8);
        due("receiveErrors(2)", x.receiveErrors(2), 1);
        x.run(1);
        due("the pause after it", x.restart(0), 0);
        due("another node", x.restart(2), 0);
        due("sendErrors(0)", x.sendErrors(0), 0);
        due("receiveErrors(2)", x.receiveErrors(2), 0);
        due("receiveErrors(3) of one not restarted", x.receiveErrors(3), 1);
    }

    private static void restartOfNodeThatWentOff() {
        WireNetwork x = newFor("5: Puts a node on, with both its counts 0.");
        x.post(code(0, 0), 0, 0L);
        x.disturb(ZERO_TENDER_BIT);
        x.run(ZERO_TENDER_BIT + COMPLAINT + PAUSE);
        x.cancel(0);
        x.post(code(1, 0), 0, 0L);
        for (int i = 1; i <= 32; i++) {
            x.disturb(ZERO_TENDER_BIT);
            x.run(i < 32 ? ZERO_TENDER_BIT + COMPLAINT + PAUSE : ZERO_TENDER_BIT);
        }
        due("isOn(1)", x.isOn(1), 0);
        due("sendErrors(1)", x.sendErrors(1), 256);
        due("receiveErrors(1)", x.receiveErrors(1), 1);
        due("in complaint", x.restart(1), BUSY);
        due("isOn(1)", x.isOn(1), 0);
        x.run(COMPLAINT);
        due("in the pause", x.restart(1), 1);
        due("isOn(1)", x.isOn(1), 1);
        due("sendErrors(1)", x.sendErrors(1), 0);
        due("receiveErrors(1)", x.receiveErrors(1), 0);
        due("its frame still waits", x.waiting(1), 1);
        due("and is sent", x.run(PAUSE + ZERO_BITS), 1);
    }

    private static void restartChangesNothingElse() {
        WireNetwork x = newFor("5: Puts a node on, with both its counts 0 (and changes nothing else)");
        for (int i = 0; i < 7; i++) {
            send(x, 0, 20 + i, 0, 0L);
        }
        x.filter(1, 1, 1);
        x.post(code(1, 40), 0, 0L);
        x.post(code(0, 0), 0, 0L);
        x.disturb(ZERO_BITS + PAUSE + ZERO_TENDER_BIT);
        x.run(ZERO_BITS);
        due("restart(1)", x.restart(1), 0);
        due("received(1)", x.received(1), 6);
        due("missed(1)", x.missed(1), 1);
        due("waiting(1)", x.waiting(1), 1);
        due("the pause goes on", x.wire(), 3);
        x.run(PAUSE - 1);
        due("to its last bit time", x.wire(), 3);
        x.run(1);
        due("idle", x.wire(), 0);
        x.run(ZERO_TENDER_BIT - 1);
        due("underWay()", x.underWay(), 40);
        x.run(1);
        due("the disturbance comes", x.wire(), 2);
        x.run(COMPLAINT + PAUSE);
        x.take(1);
        send(x, 0, 2, 0, 0L);
        due("its filter stays: 2", x.received(1), 5);
        send(x, 0, 3, 0, 0L);
        due("its filter stays: 3", x.received(1), 6);
    }

    private static void questionsOfNodes() {
        WireNetwork x = newFor("6 to 11: BAD if node is not good");
        x.post(code(2, 0), 0, 0L);
        x.disturb(ZERO_TENDER_BIT);
        x.run(ZERO_TENDER_BIT + COMPLAINT + PAUSE);
        x.post(code(1, 9), 0, 0L);
        x.post(code(2, 8), 0, 0L);
        x.post(code(3, 7), 0, 0L);
        int[] bad = {LEAST, -2048, -4, -1, 4, 5, 8, 2048, GREATEST};
        for (int node : bad) {
            due("isOn(" + node + ")", x.isOn(node), BAD);
            due("sendErrors(" + node + ")", x.sendErrors(node), BAD);
            due("receiveErrors(" + node + ")", x.receiveErrors(node), BAD);
            due("waiting(" + node + ")", x.waiting(node), BAD);
            due("received(" + node + ")", x.received(node), BAD);
            due("missed(" + node + ")", x.missed(node), BAD);
        }
        int[] sendErrors = {0, 0, 8, 0};
        int[] receiveErrors = {1, 1, 0, 1};
        int[] waiting = {0, 1, 2, 1};
        for (int node = 0; node < 4; node++) {
            due("isOn(" + node + ")", x.isOn(node), 1);
            due("sendErrors(" + node + ")", x.sendErrors(node), sendErrors[node]);
            due("receiveErrors(" + node + ")", x.receiveErrors(node), receiveErrors[node]);
            due("waiting(" + node + ")", x.waiting(node), waiting[node]);
            due("received(" + node + ")", x.received(node), 0);
            due("missed(" + node + ")", x.missed(node), 0);
        }
        x.filter(0, 1, 1);
        x.run(500);
        int[] received = {2, 3, 2, 3};
        for (int node = 0; node < 4; node++) {
            due("received(" + node + ") in the end", x.received(node), received[node]);
        }
        for (int i = 0; i < 4; i++) {
            send(x, 0, 1, 0, 0L);
        }
        int[] missed = {0, 1, 0, 1};
        for (int node = 0; node < 4; node++) {
            due("missed(" + node + ") in the end", x.missed(node), missed[node]);
        }
    }

    private static void frameAtNode() {
        WireNetwork x = newFor("12: node is not good: BAD");
        for (int node = 0; node < 4; node++) {
            send(x, node, 100 + node, node, 0L);
        }
        int[] bad = {LEAST, -1, 4, GREATEST};
        for (int node : bad) {
            due("frameAt(" + node + ", 0)", x.frameAt(node, 0), BAD);
        }
        due("frameAt(0, 0)", x.frameAt(0, 0), 16 * 101 + 1);
        due("frameAt(1, 0)", x.frameAt(1, 0), 16 * 100);
        due("frameAt(2, 2)", x.frameAt(2, 2), 16 * 103 + 3);
        due("frameAt(3, 2)", x.frameAt(3, 2), 16 * 102 + 2);
    }

    private static void frameAtPlace() {
        WireNetwork x = newFor("12: there is none: NONE");
        due("empty: -1", x.frameAt(1, -1), NONE);
        due("empty: 0", x.frameAt(1, 0), NONE);
        for (int count = 1; count <= 7; count++) {
            send(x, 0, 200 + count, 0, 0L);
            int there = Math.min(count, 6);
            due("after " + count + ": the least int", x.frameAt(1, LEAST), NONE);
            due("after " + count + ": -1", x.frameAt(1, -1), NONE);
            due("after " + count + ": 0", x.frameAt(1, 0), 16 * 201);
            due("after " + count + ": the last", x.frameAt(1, there - 1), 16 * (200 + there));
            due("after " + count + ": behind the last", x.frameAt(1, there), NONE);
            due("after " + count + ": the greatest int", x.frameAt(1, GREATEST), NONE);
        }
        // Places that would fall into another node's inbox if only the whole range were looked at.
        due("frameAt(1, -6)", x.frameAt(1, -6), NONE);
        due("frameAt(1, 6)", x.frameAt(1, 6), NONE);
        due("frameAt(2, -6)", x.frameAt(2, -6), NONE);
        due("frameAt(1, 7)", x.frameAt(1, 7), NONE);
        x.take(1);
        due("after take: 4", x.frameAt(1, 4), 16 * 206);
        due("after take: 5", x.frameAt(1, 5), NONE);
    }

    private static void frameAtExtremes() {
        WireNetwork x = newFor("12: 16 * id + length");
        send(x, 0, 0, 0, 0L);
        send(x, 0, 0, 8, 0L);
        send(x, 0, 2047, 0, 0L);
        send(x, 0, 2047, 8, 0L);
        due("least of both", x.frameAt(1, 0), 0);
        due("least id, greatest length", x.frameAt(1, 1), 8);
        due("greatest id, least length", x.frameAt(1, 2), 32752);
        due("greatest of both", x.frameAt(1, 3), 32760);
    }

    private static void dataAt() {
        WireNetwork x = newFor("13: with 0 in all other bytes; 0 if there is none");
        due("empty: -1", x.dataAt(1, -1), 0L);
        due("empty: 0", x.dataAt(1, 0), 0L);
        for (int count = 1; count <= 7; count++) {
            send(x, 0, 300 + count, 8, -count);
            int there = Math.min(count, 6);
            due("after " + count + ": the least int", x.dataAt(1, LEAST), 0L);
            due("after " + count + ": -1", x.dataAt(1, -1), 0L);
            due("after " + count + ": 0", x.dataAt(1, 0), -1L);
            due("after " + count + ": the last", x.dataAt(1, there - 1), -there);
            due("after " + count + ": behind the last", x.dataAt(1, there), 0L);
            due("after " + count + ": the greatest int", x.dataAt(1, GREATEST), 0L);
        }
        due("dataAt(2, -6)", x.dataAt(2, -6), 0L);
        int[] badNodes = {LEAST, -1, 4, GREATEST};
        for (int node : badNodes) {
            due("dataAt(" + node + ", 0)", x.dataAt(node, 0), 0L);
            due("dataAt(" + node + ", 6)", x.dataAt(node, 6), 0L);
        }
        due("the sender has none", x.dataAt(0, 0), 0L);
        due("take(1)", x.take(1), 16 * 301 + 8);
        due("after take: 0", x.dataAt(1, 0), -2L);
        due("after take: 4", x.dataAt(1, 4), -6L);
        due("after take: 5", x.dataAt(1, 5), 0L);
        send(x, 0, 1, 7, -1L);
        due("seven bytes", x.dataAt(1, 5), 0x00ffffffffffffffL);
        x.take(1);
        send(x, 0, 1, 0, -1L);
        due("no byte", x.dataAt(1, 5), 0L);
    }

    private static void take() {
        WireNetwork x = newFor("14: node is not good: BAD; it is empty: NONE");
        for (int node = 0; node < 4; node++) {
            due("empty: take(" + node + ")", x.take(node), NONE);
        }
        send(x, 3, 400, 2, 0x0102L);
        int[] bad = {LEAST, -1, 4, GREATEST};
        for (int node : bad) {
            due("take(" + node + ")", x.take(node), BAD);
        }
        due("one frame: take(0)", x.take(0), 16 * 400 + 2);
        due("none: take(0)", x.take(0), NONE);
        due("another node's stays", x.received(1), 1);
        due("one frame: take(1)", x.take(1), 16 * 400 + 2);
        due("one frame: take(2)", x.take(2), 16 * 400 + 2);
        due("the sender has none: take(3)", x.take(3), NONE);
        for (int i = 0; i < 7; i++) {
            send(x, 3, 500 + i, i, 0L);
        }
        for (int i = 0; i < 6; i++) {
            due("of six: take(2)", x.take(2), 16 * (500 + i) + i);
            due("received(2)", x.received(2), 5 - i);
        }
        due("after six: take(2)", x.take(2), NONE);
        due("received(2)", x.received(2), 0);
        due("missed(2) stays", x.missed(2), 1);
    }

    private static void run() {
        WireNetwork x = newFor("15: bits is not 0 .. 2000: BAD. Else answers how many frames were sent in them.");
        due("the least int", x.run(LEAST), BAD);
        due("-1", x.run(-1), BAD);
        due("2001", x.run(2001), BAD);
        due("the greatest int", x.run(GREATEST), BAD);
        due("time()", x.time(), 0);
        due("0", x.run(0), 0);
        due("time()", x.time(), 0);
        due("1", x.run(1), 0);
        due("time()", x.time(), 1);
        due("2000", x.run(2000), 0);
        due("time()", x.time(), 2001);
        x.post(code(0, 0), 0, 0L);
        due("one bit too few", x.run(ZERO_BITS - 1), 0);
        due("run(0) sends nothing", x.run(0), 0);
        due("the last bit", x.run(1), 1);
        due("those sent before don't count", x.run(0), 0);
        x.run(PAUSE);
        x.post(code(0, 0), 0, 0L);
        x.post(code(1, 1), 0, 0L);
        due("two, one bit too few", x.run(ZERO_BITS + PAUSE + 46), 1);
        due("the last bit", x.run(1), 1);
    }

    private static void disturbRange() {
        WireNetwork x = newFor("16: n is not 1 .. 1000: BAD. Else answers 0.");
        due("the least int", x.disturb(LEAST), BAD);
        due("-1", x.disturb(-1), BAD);
        due("0", x.disturb(0), BAD);
        due("1", x.disturb(1), 0);
        due("1000", x.disturb(1000), 0);
        due("1001", x.disturb(1001), BAD);
        due("the greatest int", x.disturb(GREATEST), BAD);
    }

    private static void disturbNumber() {
        WireNetwork x = newFor("16: at the bit time that is number n from now (1 the next one)");
        x.post(code(0, 0), 0, 0L);
        x.run(ZERO_TENDER_BIT);
        x.disturb(1);
        due("not yet", x.wire(), 1);
        x.run(0);
        due("not with run(0)", x.wire(), 1);
        x.run(1);
        due("1: the next one", x.wire(), 2);
        // Bit time 1000 as the last bit of the id, the one after it, the first limit, the answer.
        int[] bits = {14, 15, 41, 42};
        boolean[] breaks = {false, true, true, false};
        for (int i = 0; i < bits.length; i++) {
            WireNetwork y = new WireNetwork();
            y.disturb(1000);
            y.run(1000 - bits[i]);
            y.post(code(0, 0), 0, 0L);
            y.run(bits[i] - 1);
            due("1000: before bit " + bits[i], y.wire(), 1);
            y.run(1);
            due("1000: time()", y.time(), 1000);
            due("1000: after bit " + bits[i], y.wire(), breaks[i] ? 2 : 1);
            due("1000: sendErrors(0)", y.sendErrors(0), breaks[i] ? 8 : 0);
        }
    }

    private static void disturbReplaced() {
        WireNetwork x = newFor("16: this takes the place of a disturbance that was still to come");
        x.post(code(0, 0), 0, 0L);
        x.disturb(20);
        x.disturb(30);
        x.run(29);
        due("a later one: the first is gone", x.wire(), 1);
        x.run(1);
        due("a later one: the second is there", x.wire(), 2);
        WireNetwork y = new WireNetwork();
        y.post(code(0, 0), 0, 0L);
        y.disturb(30);
        y.disturb(20);
        y.run(19);
        due("an earlier one: not yet", y.wire(), 1);
        y.run(1);
        due("an earlier one", y.wire(), 2);
        y.disturb(1000);
        due("the first is gone", y.run(COMPLAINT + PAUSE + ZERO_BITS), 1);
        WireNetwork z = new WireNetwork();
        z.post(code(0, 0), 0, 0L);
        z.disturb(20);
        z.run(20);
        z.disturb(COMPLAINT + PAUSE + 20);
        z.run(COMPLAINT + PAUSE + 19);
        due("one that is past is in nobody's way", z.wire(), 1);
        z.run(1);
        due("and the next one comes", z.wire(), 2);
        due("sendErrors(0)", z.sendErrors(0), 16);
        due("each comes once", z.run(COMPLAINT + PAUSE + ZERO_BITS), 1);
    }

    private static void disturbanceOutlastsFrames() {
        WireNetwork x = newFor("16: at the bit time that is number n from now, whatever happens until then");
        x.post(code(0, 0), 0, 0L);
        x.post(code(0, 1), 0, 0L);
        x.disturb(ZERO_BITS + PAUSE + ZERO_TENDER_BIT);
        x.run(ZERO_BITS + PAUSE + ZERO_TENDER_BIT - 1);
        due("the second frame: underWay()", x.underWay(), 1);
        x.run(1);
        due("it is broken off", x.wire(), 2);
        WireNetwork y = new WireNetwork();
        putOff(y, 0);
        putOff(y, 1);
        putOff(y, 2);
        y.post(code(3, 0), 0, 0L);
        int answer = ZERO_BITS - 8;
        y.disturb(answer + COMPLAINT + PAUSE + ZERO_TENDER_BIT);
        y.run(answer);
        due("broken off at the answer", y.sendErrors(3), 8);
        y.run(COMPLAINT + PAUSE + ZERO_TENDER_BIT - 1);
        due("under way again", y.underWay(), 0);
        y.run(1);
        due("broken off once more", y.sendErrors(3), 16);
        due("wire()", y.wire(), 2);
    }

    private static void time() {
        WireNetwork x = newFor("17: How many bit times went by so far.");
        due("at first", x.time(), 0);
        x.run(2000);
        x.run(2001);
        x.run(-1);
        x.run(0);
        due("refused runs take none", x.time(), 2000);
        x.post(code(0, 0), 0, 0L);
        x.disturb(ZERO_TENDER_BIT);
        x.run(1);
        due("of a frame", x.time(), 2001);
        x.run(19);
        due("the one that breaks it off", x.time(), 2020);
        x.run(COMPLAINT);
        due("of complaint", x.time(), 2034);
        x.run(PAUSE);
        due("of pause", x.time(), 2037);
    }

    private static void wire() {
        WireNetwork x = newFor("18: 0 if the wire is idle, 1 if a frame is under way, 2 in complaint, 3 in pause "
            + "(that is, for the bit time that comes next, if nothing waits)");
        due("nothing waits", x.wire(), 0);
        x.post(code(0, 0), 0, 0L);
        due("one waits, but has not begun", x.wire(), 0);
        x.disturb(ZERO_TENDER_BIT);
        x.run(1);
        due("its second bit comes next", x.wire(), 1);
        x.run(ZERO_TENDER_BIT - 2);
        due("the disturbed bit comes next", x.wire(), 1);
        x.run(1);
        due("the first of complaint comes next", x.wire(), 2);
        x.run(COMPLAINT - 1);
        due("the last of complaint comes next", x.wire(), 2);
        x.run(1);
        due("the first of pause comes next", x.wire(), 3);
        x.run(PAUSE - 1);
        due("the last of pause comes next", x.wire(), 3);
        x.run(1);
        due("idle, though one waits", x.wire(), 0);
        x.run(ZERO_BITS - 1);
        due("its last bit comes next", x.wire(), 1);
        x.run(1);
        due("the first of pause comes next", x.wire(), 3);
        x.run(PAUSE - 1);
        due("the last of pause comes next", x.wire(), 3);
        x.run(1);
        due("idle", x.wire(), 0);
    }

    private static void underWay() {
        WireNetwork x = newFor("19: NONE if none is");
        due("at first", x.underWay(), NONE);
        x.post(code(0, 0), 0, 0L);
        due("waiting", x.underWay(), NONE);
        x.disturb(ZERO_TENDER_BIT);
        x.run(1);
        due("id 0 under way", x.underWay(), 0);
        x.run(ZERO_TENDER_BIT - 2);
        due("before it is broken off", x.underWay(), 0);
        x.run(1);
        due("broken off", x.underWay(), NONE);
        x.run(COMPLAINT);
        due("in the pause", x.underWay(), NONE);
        x.run(PAUSE);
        due("idle", x.underWay(), NONE);
        x.run(ZERO_BITS - 1);
        due("before its last bit", x.underWay(), 0);
        x.run(1);
        due("sent", x.underWay(), NONE);
        x.run(PAUSE);
        x.post(code(3, 2047), 0, 0L);
        x.run(1);
        due("id 2047 under way", x.underWay(), 2047);
    }

    private static void sent() {
        WireNetwork x = newFor("20: How many frames were sent so far.");
        due("at first", x.sent(), 0);
        x.post(code(0, 0), 0, 0L);
        x.disturb(ZERO_TENDER_BIT);
        x.run(ZERO_TENDER_BIT + COMPLAINT + PAUSE);
        due("one broken off doesn't count", x.sent(), 0);
        x.run(ZERO_BITS - 1);
        due("before its last bit", x.sent(), 0);
        x.run(1);
        due("after its last bit", x.sent(), 1);
        x.filter(1, 2047, 5);
        x.filter(2, 2047, 5);
        x.filter(3, 2047, 5);
        x.run(PAUSE);
        send(x, 0, 6, 0, 0L);
        due("one that no filter lets pass counts", x.sent(), 2);
    }

    private static void bitsOf() {
        WireNetwork x = newFor("21: id is not good, or length is not 0 .. 8: BAD");
        due("id: the least int", x.bitsOf(LEAST, 0, 0L), BAD);
        due("id: -1", x.bitsOf(-1, 0, 0L), BAD);
        due("id: 0", x.bitsOf(0, 0, 0L), 50);
        due("id: 2047", x.bitsOf(2047, 0, 0L), 47);
        due("id: 2048", x.bitsOf(2048, 0, 0L), BAD);
        due("id: a code of node 3", x.bitsOf(8191, 0, 0L), BAD);
        due("id: the greatest int", x.bitsOf(GREATEST, 0, 0L), BAD);
        due("length: the least int", x.bitsOf(0, LEAST, 0L), BAD);
        due("length: -1", x.bitsOf(0, -1, 0L), BAD);
        due("length: 8", x.bitsOf(0, 8, 0L), 124);
        due("length: 9", x.bitsOf(0, 9, 0L), BAD);
        due("length: the greatest int", x.bitsOf(0, GREATEST, 0L), BAD);
        due("both bad", x.bitsOf(-1, 9, 0L), BAD);
        due("no data count with length 0", x.bitsOf(0, 0, -1L), 50);
        due("all data count with length 8", x.bitsOf(2047, 8, -1L), 123);
        due("the lowest byte counts with length 1", x.bitsOf(77, 1, 0xffffffffffffff80L), x.bitsOf(77, 1, 0x80L));
        x.post(code(1, 0), 0, 0L);
        due("an id that waits is as good", x.bitsOf(0, 0, 0L), 50);
    }

    public static void main(String[] args) {
        newObject();
        postCode();
        postLength();
        postData();
        postFirstByte();
        postExists();
        postExistsAtLaterPlaces();
        postFull();
        postInNodeThatIsOff();
        cancelId();
        cancelNone();
        cancelAnswersTheNode();
        cancelLeavesTheOthers();
        cancelBusy();
        filterRanges();
        restartNode();
        restartBusy();
        restartOfNodeThatWentOff();
        restartChangesNothingElse();
        questionsOfNodes();
        frameAtNode();
        frameAtPlace();
        frameAtExtremes();
        dataAt();
        take();
        run();
        disturbRange();
        disturbNumber();
        disturbReplaced();
        disturbanceOutlastsFrames();
        time();
        wire();
        underWay();
        sent();
        bitsOf();
        System.out.println(asked + " answers, " + wrong + " not as due");
        if (wrong != 0) {
            System.exit(1);
        }
    }
}
