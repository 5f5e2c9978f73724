/** For each promise of the document ordinary inputs, the edges it names, and wrong inputs. */
public final class PromiseTest {
    private static final int BAD = -1;
    private static final int NONE = -2;
    private static final int FULL = -3;
    private static final int EXISTS = -4;
    private static final int BUSY = -5;
    private static final int[] BAD_NODES = {-1, 4, 5, 2047, Integer.MIN_VALUE, Integer.MAX_VALUE};
    private static final int[] BAD_IDS = {-1, 2048, 2049, Integer.MIN_VALUE, Integer.MAX_VALUE};
    private static final int[] BAD_LENGTHS = {-1, 9, 16, Integer.MIN_VALUE, Integer.MAX_VALUE};

    /** The frame with id 0 and no data: its 34 plain bits are all 0, six more are stuffed, ten follow. */
    private static final int ZERO_BITS = 50;
    /** Its twelfth plain bit, the last of the id, has two stuffed bits before it. */
    private static final int ZERO_LAST_ID_BIT = 14;
    private static final int ZERO_FIRST_LIMIT = 41;
    private static final int ZERO_ANSWER = 42;

    private static String part = "";
    private static int asked = 0;
    private static int wrong = 0;

    private static void due(String what, long got, long want) {
        asked++;
        if (got != want) {
            wrong++;
            System.out.println(part + ": " + what + " answered " + got + ", due is " + want);
        }
    }

    private static int code(int node, int id) {
        return 2048 * node + id;
    }

    /** Disturbs the frame with id 0 that begins next, and waits until the wire is idle again. */
    private static void breakNext(WireNetwork x) {
        x.disturb(20);
        x.run(20 + 14 + 3);
    }

    /** Lets a node with nothing waiting go off: 32 times 8 errors. */
    private static void putOff(WireNetwork x, int node) {
        x.post(code(node, 0), 0, 0L);
        for (int i = 0; i < 32; i++) {
            breakNext(x);
        }
        x.cancel(0);
    }

    private static void sendOne(WireNetwork x, int node, int id, int length, long data) {
        x.post(code(node, id), length, data);
        x.run(x.bitsOf(id, length, data) + 3);
    }

    private static void constants() {
        part = "constants";
        due("BAD", WireNetwork.BAD, BAD);
        due("NONE", WireNetwork.NONE, NONE);
        due("FULL", WireNetwork.FULL, FULL);
        due("EXISTS", WireNetwork.EXISTS, EXISTS);
        due("BUSY", WireNetwork.BUSY, BUSY);
    }

    private static void newObject() {
        part = "promise 1";
        WireNetwork x = new WireNetwork();
        due("time()", x.time(), 0);
        due("wire()", x.wire(), 0);
        due("underWay()", x.underWay(), NONE);
        due("sent()", x.sent(), 0);
        for (int node = 0; node < 4; node++) {
            due("isOn", x.isOn(node), 1);
            due("sendErrors", x.sendErrors(node), 0);
            due("receiveErrors", x.receiveErrors(node), 0);
            due("waiting", x.waiting(node), 0);
            due("received", x.received(node), 0);
            due("missed", x.missed(node), 0);
            due("frameAt", x.frameAt(node, 0), NONE);
            due("dataAt", x.dataAt(node, 0), 0L);
            due("take", x.take(node), NONE);
        }
        due("run of an idle wire", x.run(2000), 0);
        due("wire() after it", x.wire(), 0);
        due("first filters let all pass", x.post(code(0, 2047), 0, 0L), 1);
        x.run(100);
        due("received(1)", x.received(1), 1);
        due("received(2)", x.received(2), 1);
        due("received(3)", x.received(3), 1);
        WireNetwork y = new WireNetwork();
        due("objects are apart: sent()", y.sent(), 0);
        due("objects are apart: received(1)", y.received(1), 0);
    }

    private static void post() {
        part = "promise 2";
        WireNetwork x = new WireNetwork();
        due("code -1", x.post(-1, 0, 0L), BAD);
        due("code 8192", x.post(8192, 0, 0L), BAD);
        due("least code", x.post(Integer.MIN_VALUE, 0, 0L), BAD);
        due("greatest code", x.post(Integer.MAX_VALUE, 0, 0L), BAD);
        for (int length : BAD_LENGTHS) {
            due("length " + length, x.post(5, length, 0L), BAD);
        }
        for (int node = 0; node < 4; node++) {
            due("nothing waits after refusals", x.waiting(node), 0);
        }
        due("code 8191", x.post(8191, 8, -1L), 1);
        due("waiting(3)", x.waiting(3), 1);
        due("code 0", x.post(0, 0, 0L), 1);
        due("the same id", x.post(0, 1, 0L), EXISTS);
        due("the same id in another node", x.post(code(2, 0), 0, 0L), EXISTS);
        due("bad length before exists", x.post(0, 9, 0L), BAD);
        due("second", x.post(1, 0, 0L), 2);
        due("third", x.post(2, 0, 0L), 3);
        due("fourth", x.post(3, 0, 0L), 4);
        due("fifth", x.post(4, 0, 0L), FULL);
        due("exists before full", x.post(3, 0, 0L), EXISTS);
        due("exists elsewhere before full", x.post(2047, 0, 0L), EXISTS);
        due("bad before full", x.post(4, -1, 0L), BAD);
        due("waiting(0)", x.waiting(0), 4);
        due("the refused id in another node", x.post(code(1, 4), 0, 0L), 1);
        x.run(1);
        due("the frame under way still waits", x.post(code(1, 0), 0, 0L), EXISTS);
        due("and takes a place", x.post(9, 0, 0L), FULL);
        x.run(ZERO_BITS - 1);
        due("a sent frame's id is free", x.post(code(1, 0), 0, 0L), 2);
        due("and its place", x.post(9, 0, 0L), 4);
        postInNodeThatIsOff();
    }

    private static void postInNodeThatIsOff() {
        WireNetwork x = new WireNetwork();
        putOff(x, 1);
        due("a node that is off may have frames waiting", x.post(code(1, 3), 2, 5L), 1);
        due("the wire stays idle", x.run(2000), 0);
        due("wire()", x.wire(), 0);
        due("exists", x.post(code(0, 3), 0, 0L), EXISTS);
        due("a less urgent one of a node that is on", x.post(code(2, 1000), 0, 0L), 1);
        x.run(1);
        due("is under way", x.underWay(), 1000);
    }

    private static void postData() {
        part = "promise 2, data";
        long data = 0x8182838485868788L;
        long[] kept = {0L, 0x88L, 0x8788L, 0x868788L, 0x85868788L, 0x8485868788L,
            0x838485868788L, 0x82838485868788L, 0x8182838485868788L};
        for (int length = 0; length <= 8; length++) {
            WireNetwork x = new WireNetwork();
            sendOne(x, 0, 77, length, data);
            due("frameAt, length " + length, x.frameAt(3, 0), 16 * 77 + length);
            due("dataAt, length " + length, x.dataAt(3, 0), kept[length]);
        }
    }

    private static void cancel() {
        part = "promise 3";
        WireNetwork x = new WireNetwork();
        for (int id : BAD_IDS) {
            due("id " + id, x.cancel(id), BAD);
        }
        due("none waits", x.cancel(0), NONE);
        x.post(code(3, 2047), 1, 1L);
        x.post(code(2, 10), 1, 2L);
        x.post(code(2, 20), 2, 3L);
        x.post(code(2, 30), 3, 4L);
        due("another id", x.cancel(11), NONE);
        due("the node", x.cancel(2047), 3);
        due("it is gone", x.cancel(2047), NONE);
        due("waiting(3)", x.waiting(3), 0);
        x.run(1);
        due("under way", x.cancel(10), BUSY);
        due("one before it, of the same node", x.cancel(30), 2);
        due("waiting(2)", x.waiting(2), 2);
        due("still under way", x.underWay(), 10);
        x.run(x.bitsOf(10, 1, 2L) - 2);
        due("before the last bit", x.cancel(10), BUSY);
        due("the last bit", x.run(1), 1);
        due("sent, so it waits no longer", x.cancel(10), NONE);
        due("frameAt(0, 0)", x.frameAt(0, 0), 16 * 10 + 1);
        due("in the pause", x.cancel(20), 2);
        due("nothing more", x.run(2000), 0);
        cancelBesideFrameUnderWay();
        cancelAfterBreakingOff();
    }

    private static void cancelBesideFrameUnderWay() {
        WireNetwork x = new WireNetwork();
        x.post(code(1, 500), 3, 0x112233L);
        x.post(code(1, 400), 2, 0x4455L);
        x.post(code(1, 600), 1, 0x66L);
        x.run(30);
        due("the one in front of the one under way", x.cancel(500), 1);
        due("still under way", x.underWay(), 400);
        due("and busy", x.cancel(400), BUSY);
        due("both others are sent", x.run(300), 2);
        due("frameAt(0, 0)", x.frameAt(0, 0), 16 * 400 + 2);
        due("dataAt(0, 0)", x.dataAt(0, 0), 0x4455L);
        due("frameAt(0, 1)", x.frameAt(0, 1), 16 * 600 + 1);
        due("dataAt(0, 1)", x.dataAt(0, 1), 0x66L);
    }

    private static void cancelAfterBreakingOff() {
        WireNetwork x = new WireNetwork();
        x.post(code(1, 0), 0, 0L);
        x.disturb(20);
        x.run(20);
        due("wire()", x.wire(), 2);
        due("broken off, so not under way", x.cancel(0), 1);
        due("waiting(1)", x.waiting(1), 0);
        WireNetwork y = new WireNetwork();
        y.post(code(1, 7), 0, 0L);
        due("before it begins", y.cancel(7), 1);
        due("it never begins", y.run(500), 0);
    }

    private static void filter() {
        part = "promise 4";
        WireNetwork x = new WireNetwork();
        for (int node : BAD_NODES) {
            due("node " + node, x.filter(node, 0, 0), BAD);
        }
        for (int number : BAD_IDS) {
            due("mask " + number, x.filter(1, number, 5), BAD);
            due("value " + number, x.filter(1, 2047, number), BAD);
        }
        sendOne(x, 0, 9, 0, 0L);
        due("refused filters change nothing", x.received(1), 1);
        due("greatest", x.filter(1, 2047, 2047), 0);
        due("some bits", x.filter(2, 0x0f0, 0x350), 0);
        due("mask 0", x.filter(3, 0, 2047), 0);
        sendOne(x, 0, 2047, 0, 0L);
        due("received(1)", x.received(1), 2);
        due("received(2)", x.received(2), 1);
        due("received(3)", x.received(3), 2);
        sendOne(x, 0, 2046, 0, 0L);
        due("received(1)", x.received(1), 2);
        due("received(3)", x.received(3), 3);
        sendOne(x, 0, 0x55a, 0, 0L);
        due("bits outside the mask don't count", x.received(2), 2);
        sendOne(x, 0, 0x34a, 0, 0L);
        due("bits inside do", x.received(2), 2);
        due("none was missed", x.missed(1) + x.missed(2), 0);
        filterAtTheEnd();
    }

    private static void filterAtTheEnd() {
        WireNetwork x = new WireNetwork();
        x.post(0, 0, 0L);
        x.run(ZERO_BITS - 1);
        due("set before the last bit", x.filter(1, 1, 1), 0);
        x.run(1);
        due("it counts", x.received(1), 0);
        due("for that node alone", x.received(2), 1);
        due("taken back", x.filter(1, 0, 1), 0);
        due("too late", x.received(1), 0);
    }

    private static void restart() {
        part = "promise 5";
        WireNetwork x = new WireNetwork();
        for (int node : BAD_NODES) {
            due("node " + node, x.restart(node), BAD);
        }
        due("a node that is on", x.restart(0), 0);
        x.post(0, 0, 0L);
        due("waiting, not under way", x.restart(0), 0);
        x.disturb(20);
        x.run(1);
        due("under way", x.restart(0), BUSY);
        due("another node, under way", x.restart(3), BUSY);
        due("bad before busy", x.restart(4), BAD);
        x.run(19);
        due("complaint begins", x.wire(), 2);
        due("in complaint", x.restart(1), BUSY);
        x.run(13);
        due("at its end", x.restart(0), BUSY);
        due("sendErrors stay", x.sendErrors(0), 8);
        due("receiveErrors stay", x.receiveErrors(1), 1);
        x.run(1);
        due("in pause", x.wire(), 3);
        due("restart(0)", x.restart(0), 0);
        due("sendErrors(0)", x.sendErrors(0), 0);
        due("restart(1)", x.restart(1), 0);
        due("receiveErrors(1)", x.receiveErrors(1), 0);
        due("the others keep theirs", x.receiveErrors(2), 1);
        due("the frame still waits", x.waiting(0), 1);
        restartOfNodeThatIsOff();
    }

    private static void restartOfNodeThatIsOff() {
        WireNetwork x = new WireNetwork();
        x.filter(2, 2047, 100);
        sendOne(x, 0, 100, 1, 7L);
        putOff(x, 2);
        x.post(code(2, 55), 1, 9L);
        due("off", x.isOn(2), 0);
        due("its count", x.sendErrors(2), 256);
        due("restart(2)", x.restart(2), 1);
        due("on", x.isOn(2), 1);
        due("sendErrors(2)", x.sendErrors(2), 0);
        due("once more", x.restart(2), 0);
        due("its inbox stays", x.frameAt(2, 0), 16 * 100 + 1);
        due("what waited is sent", x.run(100), 1);
        sendOne(x, 0, 101, 0, 0L);
        due("its filter stays", x.received(2), 1);
    }

    private static void badNodes() {
        part = "promises 6 to 12 and 14, wrong nodes";
        WireNetwork x = new WireNetwork();
        sendOne(x, 0, 5, 1, 3L);
        for (int node : BAD_NODES) {
            due("isOn", x.isOn(node), BAD);
            due("sendErrors", x.sendErrors(node), BAD);
            due("receiveErrors", x.receiveErrors(node), BAD);
            due("waiting", x.waiting(node), BAD);
            due("received", x.received(node), BAD);
            due("missed", x.missed(node), BAD);
            due("frameAt", x.frameAt(node, 0), BAD);
            due("frameAt, no such place", x.frameAt(node, -1), BAD);
            due("dataAt", x.dataAt(node, 0), 0L);
            due("take", x.take(node), BAD);
        }
    }

    private static void goingOff() {
        part = "promises 6, 7, 8: going off";
        WireNetwork x = new WireNetwork();
        x.post(code(1, 0), 0, 0L);
        for (int i = 1; i <= 31; i++) {
            breakNext(x);
            due("sendErrors(1)", x.sendErrors(1), 8 * i);
            due("receiveErrors(1)", x.receiveErrors(1), 0);
            due("receiveErrors(0)", x.receiveErrors(0), i);
            due("receiveErrors(3)", x.receiveErrors(3), i);
            due("sendErrors(0)", x.sendErrors(0), 0);
            due("isOn(1)", x.isOn(1), 1);
        }
        due("sent with 248 errors", x.run(ZERO_BITS), 1);
        due("one error less in sending", x.sendErrors(1), 247);
        due("one error less in receiving", x.receiveErrors(2), 30);
        due("none less than 0", x.receiveErrors(1), 0);
        x.run(3);
        x.post(code(1, 0), 0, 0L);
        breakNext(x);
        due("255 errors", x.sendErrors(1), 255);
        due("still on", x.isOn(1), 1);
        x.disturb(20);
        x.run(19);
        due("on before the broken bit", x.isOn(1), 1);
        x.run(1);
        due("263 errors", x.sendErrors(1), 263);
        due("off at once", x.isOn(1), 0);
        due("the others are on", x.isOn(0) + x.isOn(2) + x.isOn(3), 3);
        due("complaint all the same", x.wire(), 2);
        x.run(17);
        due("idle", x.wire(), 0);
        due("the frame still waits", x.waiting(1), 1);
        due("and is not sent", x.run(500), 0);
        nodeThatIsOff(x);
    }

    /** Node 1 is off with 263 errors, node 0 .. 3 have 32 errors in receiving but for node 1. */
    private static void nodeThatIsOff(WireNetwork x) {
        int before = x.received(1);
        due("receiveErrors(3)", x.receiveErrors(3), 32);
        sendOne(x, 0, 3, 0, 0L);
        due("it receives nothing", x.received(1), before);
        due("and misses nothing", x.missed(1), 0);
        due("the others receive", x.frameAt(2, x.received(2) - 1), 16 * 3);
        due("one less", x.receiveErrors(3), 31);
        due("none for the sender", x.receiveErrors(0), 32);
        x.post(code(3, 1), 0, 0L);
        x.disturb(20);
        x.run(40);
        due("one more", x.receiveErrors(0), 33);
        due("none for the one that is off", x.receiveErrors(1), 0);
        due("its count stays", x.sendErrors(1), 263);
    }

    private static void goingOffWithReceiveErrors() {
        part = "promise 8: counts of a node that is off stay";
        WireNetwork x = new WireNetwork();
        x.post(code(0, 0), 0, 0L);
        breakNext(x);
        breakNext(x);
        x.cancel(0);
        putOff(x, 1);
        due("receiveErrors(1)", x.receiveErrors(1), 2);
        due("receiveErrors(0)", x.receiveErrors(0), 32);
        sendOne(x, 2, 1, 0, 0L);
        due("not one less", x.receiveErrors(1), 2);
        due("restart(1)", x.restart(1), 1);
        due("receiveErrors(1)", x.receiveErrors(1), 0);
    }

    private static void waiting() {
        part = "promise 9";
        WireNetwork x = new WireNetwork();
        x.post(code(2, 0), 0, 0L);
        due("waiting(2)", x.waiting(2), 1);
        due("waiting(1)", x.waiting(1), 0);
        x.run(ZERO_BITS - 1);
        due("under way", x.waiting(2), 1);
        x.run(1);
        due("sent", x.waiting(2), 0);
        x.run(3);
        x.post(code(2, 0), 0, 0L);
        x.disturb(20);
        x.run(20);
        due("broken off", x.waiting(2), 1);
    }

    private static void inbox() {
        part = "promises 10, 11, 12, 13, 14";
        WireNetwork x = new WireNetwork();
        for (int i = 0; i < 8; i++) {
            sendOne(x, 3, 100 + i, i % 3, 0x1234L + i);
            due("received(1)", x.received(1), i < 6 ? i + 1 : 6);
            due("missed(1)", x.missed(1), i < 6 ? 0 : i - 5);
            due("received(3)", x.received(3), 0);
            due("missed(3)", x.missed(3), 0);
        }
        for (int i = 0; i < 6; i++) {
            due("frameAt(1, " + i + ")", x.frameAt(1, i), 16 * (100 + i) + i % 3);
        }
        due("dataAt(1, 0)", x.dataAt(1, 0), 0L);
        due("dataAt(1, 1)", x.dataAt(1, 1), 0x35L);
        due("dataAt(1, 2)", x.dataAt(1, 2), 0x1236L);
        due("dataAt(1, 5)", x.dataAt(1, 5), 0x1239L);
        int[] badPlaces = {-1, 6, 7, Integer.MIN_VALUE, Integer.MAX_VALUE};
        for (int i : badPlaces) {
            due("frameAt(1, " + i + ")", x.frameAt(1, i), NONE);
            due("dataAt(1, " + i + ")", x.dataAt(1, i), 0L);
        }
        due("take(1)", x.take(1), 16 * 100);
        due("received(1)", x.received(1), 5);
        due("received(2) stays", x.received(2), 6);
        due("frameAt(1, 0)", x.frameAt(1, 0), 16 * 101 + 1);
        due("dataAt(1, 0)", x.dataAt(1, 0), 0x35L);
        due("frameAt(1, 5)", x.frameAt(1, 5), NONE);
        due("dataAt(1, 5)", x.dataAt(1, 5), 0L);
        sendOne(x, 3, 900, 8, -2L);
        due("behind what is there", x.frameAt(1, 5), 16 * 900 + 8);
        due("negative data", x.dataAt(1, 5), -2L);
        due("missed(1)", x.missed(1), 2);
        due("missed(2)", x.missed(2), 3);
        int[] order = {101 * 16 + 1, 102 * 16 + 2, 103 * 16, 104 * 16 + 1, 105 * 16 + 2, 900 * 16 + 8};
        for (int frame : order) {
            due("take(1)", x.take(1), frame);
        }
        due("empty", x.take(1), NONE);
        due("received(1)", x.received(1), 0);
        due("frameAt(1, 0)", x.frameAt(1, 0), NONE);
        due("dataAt(1, 0)", x.dataAt(1, 0), 0L);
        due("missed(1) stays", x.missed(1), 2);
        x.filter(2, 2047, 0);
        sendOne(x, 3, 901, 0, 0L);
        due("a frame that doesn't pass is not missed", x.missed(2), 3);
        due("a full inbox is no error", x.receiveErrors(2), 0);
    }

    private static void run() {
        part = "promise 15";
        WireNetwork x = new WireNetwork();
        due("-1", x.run(-1), BAD);
        due("2001", x.run(2001), BAD);
        due("least", x.run(Integer.MIN_VALUE), BAD);
        due("greatest", x.run(Integer.MAX_VALUE), BAD);
        due("time()", x.time(), 0);
        x.post(code(0, 0), 0, 0L);
        due("0", x.run(0), 0);
        due("nothing begins in no time", x.wire(), 0);
        due("up to the last bit", x.run(ZERO_BITS - 1), 0);
        due("the last bit", x.run(1), 1);
        due("2000", x.run(2000), 0);
        for (int i = 0; i < 4; i++) {
            x.post(code(i, 3 - i), 0, 0L);
        }
        due("several", x.run(2000), 4);
        urgency();
    }

    private static void urgency() {
        WireNetwork x = new WireNetwork();
        x.post(code(0, 700), 0, 0L);
        x.run(1);
        x.post(code(0, 800), 0, 0L);
        x.post(code(1, 300), 0, 0L);
        x.post(code(2, 2), 0, 0L);
        x.post(code(0, 100), 0, 0L);
        due("what is under way is not pushed away", x.underWay(), 700);
        due("all five", x.run(2000), 5);
        int[] order = {700, 2, 100, 300, 800};
        for (int id : order) {
            due("take(3)", x.take(3), 16 * id);
        }
        WireNetwork y = new WireNetwork();
        y.post(code(0, 0), 0, 0L);
        y.run(ZERO_BITS);
        y.post(code(0, 9), 0, 0L);
        y.run(3);
        due("after the pause nothing has begun", y.wire(), 0);
        y.post(code(3, 8), 0, 0L);
        y.run(1);
        due("posted at the last moment", y.underWay(), 8);
    }

    private static void disturb() {
        part = "promise 16";
        WireNetwork x = new WireNetwork();
        int[] bad = {0, -1, 1001, Integer.MIN_VALUE, Integer.MAX_VALUE};
        for (int n : bad) {
            due("disturb(" + n + ")", x.disturb(n), BAD);
        }
        x.post(0, 0, 0L);
        due("refused ones change nothing", x.run(60), 1);
        due("1", x.disturb(1), 0);
        due("1000", x.disturb(1000), 0);
        due("a later one takes its place", x.run(980), 0);
        x.post(0, 0, 0L);
        x.run(19);
        due("wire()", x.wire(), 1);
        for (int n : bad) {
            due("disturb(" + n + ")", x.disturb(n), BAD);
        }
        x.run(1);
        due("the one still to come is not taken away by refused ones", x.wire(), 2);
        due("only once", x.run(17 + ZERO_BITS), 1);
        disturbReplaced();
    }

    private static void disturbReplaced() {
        WireNetwork x = new WireNetwork();
        x.post(0, 0, 0L);
        x.disturb(20);
        x.run(15);
        x.disturb(7);
        x.run(5);
        due("the first has been replaced", x.wire(), 1);
        x.run(1);
        due("bit 21 is good", x.wire(), 1);
        x.run(1);
        due("bit 22 is not", x.wire(), 2);
        due("underWay()", x.underWay(), NONE);
        WireNetwork y = new WireNetwork();
        y.post(0, 0, 0L);
        y.run(ZERO_LAST_ID_BIT);
        y.disturb(1);
        y.run(0);
        due("not in no time", y.wire(), 1);
        y.run(1);
        due("the next bit time", y.wire(), 2);
    }

    /** Disturbs each bit of a frame once; first .. last are those that break it off. */
    private static void disturbEach(int id, int length, long data, int first, int last) {
        int bits = new WireNetwork().bitsOf(id, length, data);
        for (int n = 1; n <= bits + 3; n++) {
            WireNetwork x = new WireNetwork();
            boolean broken = first <= n && n <= last;
            String what = "bit " + n + " of id " + id + " disturbed: ";
            x.post(code(2, id), length, data);
            x.disturb(n);
            x.run(n);
            due(what + "wire()", x.wire(), broken ? 2 : n < bits ? 1 : n < bits + 3 ? 3 : 0);
            due(what + "sendErrors(2)", x.sendErrors(2), broken ? 8 : 0);
            due(what + "receiveErrors(0)", x.receiveErrors(0), broken ? 1 : 0);
            due(what + "receiveErrors(2)", x.receiveErrors(2), 0);
            due(what + "underWay()", x.underWay(), !broken && n < bits ? id : NONE);
            due(what + "waiting(2)", x.waiting(2), broken || n < bits ? 1 : 0);
            x.run(broken ? 17 + bits : Math.max(0, bits - n));
            due(what + "sent()", x.sent(), 1);
            due(what + "received(1)", x.received(1), 1);
            due(what + "received(2)", x.received(2), 0);
            due(what + "sendErrors(2) in the end", x.sendErrors(2), broken ? 7 : 0);
            due(what + "receiveErrors(0) in the end", x.receiveErrors(0), 0);
        }
    }

    private static void breakingOff() {
        part = "terms: broken off";
        disturbEach(0, 0, 0L, ZERO_LAST_ID_BIT + 1, ZERO_FIRST_LIMIT);
        // 0, 11111, stuffed 0, 1, 00000: the last bit of the id is the 13th, a stuffed one comes next.
        int bits = new WireNetwork().bitsOf(2016, 0, 0L);
        disturbEach(2016, 0, 0L, 14, bits - 9);
        // 0, 10101010101: nothing is stuffed up to the last bit of the id.
        bits = new WireNetwork().bitsOf(1365, 8, 0x5a5a5a5a5a5a5a5aL);
        disturbEach(1365, 8, 0x5a5a5a5a5a5a5a5aL, 13, bits - 9);
    }

    private static void disturbedWithoutEffect() {
        part = "terms: disturbed without effect";
        for (int n = 1; n <= 17; n++) {
            WireNetwork x = new WireNetwork();
            x.post(0, 0, 0L);
            x.disturb(30);
            x.run(30);
            x.disturb(n);
            due("complaint and pause, bit " + n, x.run(17 + ZERO_BITS), 1);
            due("time()", x.time(), 47 + ZERO_BITS);
            due("sendErrors(0)", x.sendErrors(0), 7);
        }
        WireNetwork x = new WireNetwork();
        x.disturb(5);
        x.run(10);
        due("idle", x.wire(), 0);
        due("sent", x.post(0, 0, 0L) + x.run(ZERO_BITS), 2);
        due("no errors", x.sendErrors(0) + x.receiveErrors(1), 0);
    }

    private static void alone() {
        part = "terms: no other node is on";
        WireNetwork x = new WireNetwork();
        putOff(x, 0);
        putOff(x, 1);
        x.post(code(2, 0), 0, 0L);
        due("two are enough", x.run(ZERO_BITS + 3), 1);
        due("received(3)", x.received(3), 1);
        putOff(x, 2);
        due("isOn(3)", x.isOn(3), 1);
        int before = x.receiveErrors(3);
        x.post(code(3, 0), 0, 0L);
        x.disturb(ZERO_ANSWER);
        x.run(ZERO_ANSWER - 1);
        due("before the answer", x.wire(), 1);
        x.run(1);
        due("at the answer", x.wire(), 2);
        due("8 errors, not more", x.sendErrors(3), 8);
        due("its own errors in receiving stay", x.receiveErrors(3), before);
        due("off nodes keep theirs", x.sendErrors(0), 256);
        x.run(17);
        due("idle", x.wire(), 0);
        x.run(30 * (ZERO_ANSWER + 17));
        due("31 times", x.sendErrors(3), 248);
        due("isOn(3)", x.isOn(3), 1);
        due("the 32nd time", x.run(ZERO_ANSWER), 0);
        due("sendErrors(3)", x.sendErrors(3), 256);
        due("isOn(3)", x.isOn(3), 0);
        x.run(2000);
        due("all are off: idle", x.wire(), 0);
        due("waiting(3)", x.waiting(3), 1);
        due("restart(1)", x.restart(1), 1);
        x.run(100);
        due("a frame of a node that is off doesn't begin", x.wire(), 0);
        due("restart(3)", x.restart(3), 1);
        due("now there is another", x.run(ZERO_BITS), 1);
        due("received(1)", x.frameAt(1, x.received(1) - 1), 0);
    }

    private static void timeAndWire() {
        part = "promises 17, 18, 19, 20";
        WireNetwork x = new WireNetwork();
        x.run(7);
        due("time()", x.time(), 7);
        x.run(2001);
        due("a refused run takes no time", x.time(), 7);
        x.post(code(1, 0), 0, 0L);
        due("waiting: idle", x.wire(), 0);
        due("waiting: not under way", x.underWay(), NONE);
        for (int n = 1; n < ZERO_BITS; n++) {
            x.run(1);
            due("bit " + n + ": wire()", x.wire(), 1);
            due("bit " + n + ": underWay()", x.underWay(), 0);
            due("bit " + n + ": sent()", x.sent(), 0);
        }
        x.run(1);
        due("sent()", x.sent(), 1);
        due("underWay()", x.underWay(), NONE);
        int[] pause = {3, 3, 3, 0, 0};
        for (int state : pause) {
            due("pause: wire()", x.wire(), state);
            x.run(1);
        }
        due("time()", x.time(), 7 + ZERO_BITS + 5);
        x.post(code(1, 2047), 8, -1L);
        x.disturb(20);
        x.run(19);
        due("underWay()", x.underWay(), 2047);
        x.run(1);
        for (int n = 0; n < 17; n++) {
            due("complaint " + n + ": wire()", x.wire(), n < 14 ? 2 : 3);
            due("complaint " + n + ": underWay()", x.underWay(), NONE);
            x.run(1);
        }
        due("idle", x.wire(), 0);
        x.run(1);
        due("again under way", x.underWay(), 2047);
        x.run(2000);
        due("sent()", x.sent(), 2);
        due("time()", x.time(), 7 + ZERO_BITS + 5 + 20 + 17 + 1 + 2000);
    }

    private static void bitsOf() {
        part = "promise 21";
        WireNetwork x = new WireNetwork();
        for (int id : BAD_IDS) {
            due("id " + id, x.bitsOf(id, 0, 0L), BAD);
        }
        for (int length : BAD_LENGTHS) {
            due("length " + length, x.bitsOf(0, length, 0L), BAD);
        }
        due("all zeros", x.bitsOf(0, 0, 0L), ZERO_BITS);
        due("data beyond the length doesn't count", x.bitsOf(0, 0, -1L), ZERO_BITS);
        due("the lowest bytes count", x.bitsOf(300, 2, 0x7777777777771234L), x.bitsOf(300, 2, 0x1234L));
        due("id 1635", x.bitsOf(1635, 4, 0L), 83);
        due("id 522", x.bitsOf(522, 1, 0L), 55);
        due("id 5", x.bitsOf(5, 2, 0L), 65);
        due("id 8", x.bitsOf(8, 0, -1L), 47);
        due("nothing begins", x.wire(), 0);
        due("nothing waits", x.waiting(0), 0);
    }

    public static void main(String[] args) {
        constants();
        newObject();
        post();
        postData();
        cancel();
        filter();
        restart();
        badNodes();
        goingOff();
        goingOffWithReceiveErrors();
        waiting();
        inbox();
        run();
        disturb();
        breakingOff();
        disturbedWithoutEffect();
        alone();
        timeAndWire();
        bitsOf();
        System.out.println(asked + " answers, " + wrong + " not as due");
        if (wrong != 0) {
            System.exit(1);
        }
    }
}
