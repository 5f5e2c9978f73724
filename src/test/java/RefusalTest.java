import java.util.ArrayList;
import java.util.LinkedHashMap;
import java.util.List;
import java.util.Map;

/**
 * "A refused call changes nothing. Questions change nothing." and "the tests are made in the order named".
 *
 * <p>Two objects get the same calls, but one of them a refused call or a question besides; then both are
 * asked for everything and taken through a long future, in which also what no question tells comes out: the
 * filters, the disturbance to come, the frames that wait, the bits that have gone by. All answers must agree.
 */
public final class RefusalTest {
    private static final int BAD = -1;
    private static final int NONE = -2;
    private static final int FULL = -3;
    private static final int EXISTS = -4;
    private static final int BUSY = -5;
    private static final int LEAST = Integer.MIN_VALUE;
    private static final int GREATEST = Integer.MAX_VALUE;
    private static final int MOST_CALLS = 512;

    private static int compared = 0;
    private static int wrong = 0;

    private interface Call {
        long on(WireNetwork x);
    }

    /** A call with the answer that is due. */
    private static final class Asked {
        final Call call;
        final long due;

        Asked(Call call, long due) {
            this.call = call;
            this.due = due;
        }
    }

    /** A state that some calls lead to, and what is refused in it. */
    private static final class Scene {
        final String name;
        final int wire;
        final List<Call> calls = new ArrayList<>();
        final Map<String, Asked> refused = new LinkedHashMap<>();

        Scene(String name, int wire) {
            this.name = name;
            this.wire = wire;
        }

        Scene then(Call... more) {
            calls.addAll(List.of(more));
            return this;
        }

        Scene refuses(String text, int due, Call call) {
            refused.put(text, new Asked(call, due));
            return this;
        }

        WireNetwork made() {
            WireNetwork x = new WireNetwork();
            for (Call call : calls) {
                call.on(x);
            }
            return x;
        }
    }

    private static void say(String text) {
        wrong++;
        System.out.println(text);
    }

    private static int code(int node, int id) {
        return 2048 * node + id;
    }

    private static void askEverything(WireNetwork x, List<Long> answers) {
        answers.add((long) x.time());
        answers.add((long) x.wire());
        answers.add((long) x.underWay());
        answers.add((long) x.sent());
        for (int node = 0; node < 4; node++) {
            answers.add((long) x.isOn(node));
            answers.add((long) x.sendErrors(node));
            answers.add((long) x.receiveErrors(node));
            answers.add((long) x.waiting(node));
            answers.add((long) x.received(node));
            answers.add((long) x.missed(node));
            for (int i = 0; i < 6; i++) {
                answers.add((long) x.frameAt(node, i));
                answers.add(x.dataAt(node, i));
            }
        }
    }

    private static void emptyInboxes(WireNetwork x, List<Long> answers) {
        for (int node = 0; node < 4; node++) {
            long taken = 0;
            for (int i = 0; i < 7 && taken != NONE; i++) {
                taken = x.take(node);
                answers.add(taken);
            }
        }
    }

    private static List<Long> future(WireNetwork x) {
        List<Long> answers = new ArrayList<>();
        askEverything(x, answers);
        emptyInboxes(x, answers);
        for (int i = 0; i < 45; i++) {
            answers.add((long) x.run(1));
            answers.add((long) x.wire());
        }
        answers.add((long) x.run(1000));
        askEverything(x, answers);
        emptyInboxes(x, answers);
        answers.add((long) x.run(1000));
        for (int node = 0; node < 4; node++) {
            answers.add((long) x.restart(node));
        }
        answers.add((long) x.run(2000));
        askEverything(x, answers);
        return answers;
    }

    private static void compare(Scene scene, String text, Asked asked, List<Long> without) {
        compared++;
        WireNetwork x = scene.made();
        long answer = asked.call.on(x);
        if (answer != asked.due) {
            say(scene.name + ": " + text + " answered " + answer + ", due is " + asked.due);
        }
        List<Long> with = future(x);
        if (scene.calls.size() + 1 + with.size() > MOST_CALLS) {
            say(scene.name + ": too many calls for one object: " + (scene.calls.size() + 1 + with.size()));
        }
        if (!with.equals(without)) {
            int i = 0;
            while (i < with.size() && i < without.size() && with.get(i).equals(without.get(i))) {
                i++;
            }
            say(scene.name + ": " + text + " changed something: answer " + i + " after it is another one");
        }
    }

    private static Map<String, Asked> badCalls() {
        Map<String, Asked> calls = new LinkedHashMap<>();
        int[] badNodes = {LEAST, -1, 4, GREATEST};
        int[] badIds = {LEAST, -1, 2048, GREATEST};
        int[] badLengths = {LEAST, -1, 9, GREATEST};
        int[] badCodes = {LEAST, -1, 8192, GREATEST};
        int[] badBits = {LEAST, -1, 2001, GREATEST};
        int[] badDisturbances = {LEAST, -1, 0, 1001, GREATEST};
        for (int code : badCodes) {
            calls.put("post(" + code + ", 0, 0)", new Asked(x -> x.post(code, 0, 0L), BAD));
        }
        for (int length : badLengths) {
            calls.put("post(1500, " + length + ", 7)", new Asked(x -> x.post(1500, length, 7L), BAD));
            calls.put("bitsOf(0, " + length + ", 7)", new Asked(x -> x.bitsOf(0, length, 7L), BAD));
        }
        for (int id : badIds) {
            calls.put("cancel(" + id + ")", new Asked(x -> x.cancel(id), BAD));
            calls.put("bitsOf(" + id + ", 0, 0)", new Asked(x -> x.bitsOf(id, 0, 0L), BAD));
            for (int node = 0; node < 4; node++) {
                int thatNode = node;
                // The good one of the two numbers would let other frames pass than the scenes' filters do.
                calls.put("filter(" + node + ", " + id + ", 2)", new Asked(x -> x.filter(thatNode, id, 2), BAD));
                calls.put("filter(" + node + ", 2047, " + id + ")",
                    new Asked(x -> x.filter(thatNode, 2047, id), BAD));
            }
        }
        for (int node : badNodes) {
            calls.put("filter(" + node + ", 2047, 2)", new Asked(x -> x.filter(node, 2047, 2), BAD));
            calls.put("restart(" + node + ")", new Asked(x -> x.restart(node), BAD));
            calls.put("isOn(" + node + ")", new Asked(x -> x.isOn(node), BAD));
            calls.put("sendErrors(" + node + ")", new Asked(x -> x.sendErrors(node), BAD));
            calls.put("receiveErrors(" + node + ")", new Asked(x -> x.receiveErrors(node), BAD));
            calls.put("waiting(" + node + ")", new Asked(x -> x.waiting(node), BAD));
            calls.put("received(" + node + ")", new Asked(x -> x.received(node), BAD));
            calls.put("missed(" + node + ")", new Asked(x -> x.missed(node), BAD));
            calls.put("frameAt(" + node + ", 0)", new Asked(x -> x.frameAt(node, 0), BAD));
            calls.put("take(" + node + ")", new Asked(x -> x.take(node), BAD));
        }
        for (int bits : badBits) {
            calls.put("run(" + bits + ")", new Asked(x -> x.run(bits), BAD));
        }
        for (int n : badDisturbances) {
            calls.put("disturb(" + n + ")", new Asked(x -> x.disturb(n), BAD));
        }
        return calls;
    }

    private static Map<String, Call> questions() {
        Map<String, Call> calls = new LinkedHashMap<>();
        for (int n = 0; n < 4; n++) {
            int node = n;
            calls.put("isOn(" + node + ")", x -> x.isOn(node));
            calls.put("sendErrors(" + node + ")", x -> x.sendErrors(node));
            calls.put("receiveErrors(" + node + ")", x -> x.receiveErrors(node));
            calls.put("waiting(" + node + ")", x -> x.waiting(node));
            calls.put("received(" + node + ")", x -> x.received(node));
            calls.put("missed(" + node + ")", x -> x.missed(node));
            int[] places = {LEAST, -1, 0, 1, 5, 6, GREATEST};
            for (int i : places) {
                calls.put("frameAt(" + node + ", " + i + ")", x -> x.frameAt(node, i));
                calls.put("dataAt(" + node + ", " + i + ")", x -> x.dataAt(node, i));
            }
        }
        calls.put("dataAt(-1, 0)", x -> x.dataAt(-1, 0));
        calls.put("dataAt(4, 0)", x -> x.dataAt(4, 0));
        calls.put("time()", WireNetwork::time);
        calls.put("wire()", WireNetwork::wire);
        calls.put("underWay()", WireNetwork::underWay);
        calls.put("sent()", WireNetwork::sent);
        calls.put("bitsOf(0, 0, 0)", x -> x.bitsOf(0, 0, 0L));
        calls.put("bitsOf(2047, 8, -1)", x -> x.bitsOf(2047, 8, -1L));
        calls.put("run(0)", x -> x.run(0));
        return calls;
    }

    private static Scene newObject() {
        Scene scene = new Scene("new object", 0);
        for (int n = 0; n < 4; n++) {
            int node = n;
            scene.refuses("take(" + node + "), empty", NONE, x -> x.take(node));
            scene.refuses("frameAt(" + node + ", 0), empty", NONE, x -> x.frameAt(node, 0));
        }
        return scene.refuses("cancel(0), none waits", NONE, x -> x.cancel(0))
            .refuses("cancel(2047), none waits", NONE, x -> x.cancel(2047))
            .refuses("underWay()", NONE, WireNetwork::underWay);
    }

    /** Frames in inboxes and waiting, filters set, errors counted, a disturbance to come; not yet begun. */
    private static Scene busyDay(String name, int wire) {
        return new Scene(name, wire).then(
            x -> x.post(code(1, 40), 2, 0x1122L), x -> x.post(code(2, 30), 8, -3L), x -> x.disturb(35),
            x -> x.run(400), x -> x.filter(0, 1, 1), x -> x.filter(3, 6, 4),
            x -> x.post(code(0, 0), 0, 0L), x -> x.post(code(0, 21), 1, 0xeeL),
            x -> x.post(code(1, 12), 3, 0x778899L), x -> x.post(code(3, 13), 8, Long.MIN_VALUE),
            x -> x.post(code(2, 1500), 4, 0x01020304L));
    }

    private static void refuseForWaiting(Scene scene, int receivedByNode1) {
        scene.refuses("post of a waiting id", EXISTS, x -> x.post(code(0, 21), 8, 1L))
            .refuses("post of a waiting id in another node", EXISTS, x -> x.post(code(2, 21), 8, 1L))
            .refuses("post, length bad before exists", BAD, x -> x.post(code(2, 21), 9, 1L))
            .refuses("cancel(1), none waits", NONE, x -> x.cancel(1))
            .refuses("cancel of an id in an inbox", NONE, x -> x.cancel(40))
            .refuses("take of a bad node before empty", BAD, x -> x.take(4))
            .refuses("frameAt behind the last", NONE, x -> x.frameAt(1, receivedByNode1))
            .refuses("frameAt(-1, -1), bad before none", BAD, x -> x.frameAt(-1, -1))
            .refuses("frameAt(4, 6), bad before none", BAD, x -> x.frameAt(4, 6));
    }

    private static void refuseRestart(Scene scene) {
        for (int n = 0; n < 4; n++) {
            int node = n;
            scene.refuses("restart(" + node + ")", BUSY, x -> x.restart(node));
        }
        scene.refuses("restart(-1), bad before busy", BAD, x -> x.restart(-1))
            .refuses("restart(4), bad before busy", BAD, x -> x.restart(4));
    }

    private static Scene waiting() {
        Scene scene = busyDay("frames wait", 0).then(x -> x.disturb(20));
        refuseForWaiting(scene, 1);
        return scene.refuses("underWay()", NONE, WireNetwork::underWay);
    }

    private static Scene underWay(String name, int disturbed, int bits) {
        Scene scene = busyDay(name, 1).then(x -> x.disturb(disturbed), x -> x.run(bits));
        refuseForWaiting(scene, 1);
        refuseRestart(scene);
        return scene.refuses("cancel(0), under way", BUSY, x -> x.cancel(0))
            .refuses("post of the id under way", EXISTS, x -> x.post(code(3, 0), 0, 0L));
    }

    private static Scene inComplaint(String name, int bits) {
        Scene scene = busyDay(name, 2).then(x -> x.disturb(20), x -> x.run(20 + bits), x -> x.disturb(40));
        refuseForWaiting(scene, 1);
        refuseRestart(scene);
        return scene.refuses("post of the id broken off", EXISTS, x -> x.post(code(3, 0), 0, 0L))
            .refuses("underWay()", NONE, WireNetwork::underWay);
    }

    private static Scene inPause() {
        Scene scene = busyDay("pause", 3).then(x -> x.run(51), x -> x.disturb(30));
        refuseForWaiting(scene, 2);
        return scene.refuses("cancel(0), sent", NONE, x -> x.cancel(0))
            .refuses("underWay()", NONE, WireNetwork::underWay);
    }

    private static Scene full(String name, int wire, int bits) {
        Scene scene = new Scene(name, wire);
        for (int i = 0; i < 8; i++) {
            int data = i;
            scene.then(x -> x.post(code(0, 700), 8, data), x -> x.run(200));
        }
        for (int i = 0; i < 4; i++) {
            int place = i;
            scene.then(x -> x.post(code(1, 10 * place), 1, place), x -> x.post(code(2, 10 * place + 1), 1, place));
        }
        scene.then(x -> x.filter(3, 1, 1), x -> x.disturb(30), x -> x.run(bits));
        for (int node = 1; node <= 2; node++) {
            int first = code(node, 0);
            scene.refuses("fifth of node " + node, FULL, x -> x.post(first + 5, 0, 0L))
                .refuses("exists before full, node " + node, EXISTS, x -> x.post(first + 31, 0, 0L))
                .refuses("exists elsewhere before full, node " + node, EXISTS, x -> x.post(first + 30, 0, 0L))
                .refuses("length 9 before full, node " + node, BAD, x -> x.post(first + 5, 9, 0L))
                .refuses("length -1 before exists and full, node " + node, BAD, x -> x.post(first + 30, -1, 0L));
        }
        return scene.refuses("frameAt(1, 6) of a full inbox", NONE, x -> x.frameAt(1, 6))
            .refuses("frameAt(1, -1) of a full inbox", NONE, x -> x.frameAt(1, -1))
            .refuses("frameAt(0, 0) of an empty inbox", NONE, x -> x.frameAt(0, 0))
            .refuses("take(0) of an empty inbox", NONE, x -> x.take(0));
    }

    private static Scene nodeOff(String name, int wire, int lastRun) {
        Scene scene = new Scene(name, wire).then(x -> x.post(code(2, 0), 0, 0L));
        for (int i = 0; i < 31; i++) {
            scene.then(x -> x.disturb(20), x -> x.run(37));
        }
        return scene.then(x -> x.disturb(20), x -> x.run(20), x -> x.run(lastRun),
                x -> x.post(code(2, 3), 1, 0x99L), x -> x.post(code(2, 4), 1, 0x98L),
                x -> x.post(code(2, 5), 1, 0x97L), x -> x.post(code(1, 6), 2, 0x9695L))
            .refuses("fifth of the node that is off", FULL, x -> x.post(code(2, 7), 0, 0L))
            .refuses("post of an id that waits there", EXISTS, x -> x.post(code(0, 3), 0, 0L))
            .refuses("exists before full", EXISTS, x -> x.post(code(2, 6), 0, 0L))
            .refuses("cancel(7), none waits", NONE, x -> x.cancel(7))
            .refuses("take(2), empty", NONE, x -> x.take(2));
    }

    private static List<Scene> scenes() {
        List<Scene> scenes = new ArrayList<>();
        scenes.add(newObject());
        scenes.add(waiting());
        scenes.add(underWay("under way, first bit", 40, 1));
        scenes.add(underWay("under way, in the middle", 40, 25));
        scenes.add(underWay("under way, before the disturbed bit", 40, 39));
        scenes.add(underWay("under way, disturbed without effect", 5, 25));
        scenes.add(underWay("under way, before the last bit", 5, 49));
        scenes.add(inComplaint("complaint, at its beginning", 0));
        scenes.add(inComplaint("complaint, at its end", 13));
        scenes.add(inPause());
        scenes.add(full("full, nothing under way", 0, 0));
        scenes.add(full("full, under way", 1, 10));
        scenes.add(nodeOff("node off, idle", 0, 17));
        Scene justOff = nodeOff("node off, complaint", 2, 5);
        refuseRestart(justOff);
        scenes.add(justOff);
        return scenes;
    }

    /** A scene in which not all the future sees would prove nothing: these must differ in it. */
    private static void futureSeesEverything() {
        Map<String, Call> changes = new LinkedHashMap<>();
        changes.put("another filter of node 0", x -> x.filter(0, 1, 0));
        changes.put("another filter of node 1", x -> x.filter(1, 2047, 2));
        changes.put("another filter of node 2", x -> x.filter(2, 2047, 2));
        changes.put("another filter of node 3", x -> x.filter(3, 6, 2));
        changes.put("another disturbance", x -> x.disturb(30));
        changes.put("one bit time more", x -> x.run(1));
        changes.put("a frame less", x -> x.cancel(1500));
        changes.put("a frame more", x -> x.post(code(1, 1501), 0, 0L));
        changes.put("a frame taken", x -> x.take(1));
        Scene scene = waiting();
        List<Long> without = future(scene.made());
        for (Map.Entry<String, Call> change : changes.entrySet()) {
            WireNetwork x = scene.made();
            change.getValue().on(x);
            if (future(x).equals(without)) {
                say("the future does not see: " + change.getKey());
            }
        }
    }

    private static void questionsAnswerTwiceTheSame(Scene scene) {
        WireNetwork x = scene.made();
        for (Map.Entry<String, Call> question : questions().entrySet()) {
            long first = question.getValue().on(x);
            long second = question.getValue().on(x);
            if (first != second) {
                say(scene.name + ": " + question.getKey() + " answered " + first + ", then " + second);
            }
        }
    }

    public static void main(String[] args) {
        Map<String, Asked> badCalls = badCalls();
        for (Scene scene : scenes()) {
            List<Long> without = future(scene.made());
            scene.refused.forEach((text, asked) -> compare(scene, text, asked, without));
            badCalls.forEach((text, asked) -> compare(scene, text, asked, without));
            questions().forEach((text, call) -> {
                long answer = call.on(scene.made());
                compare(scene, text, new Asked(call, answer), without);
            });
            questionsAnswerTwiceTheSame(scene);
            int wire = scene.made().wire();
            if (wire != scene.wire) {
                say(scene.name + ": wire() answered " + wire + ", due is " + scene.wire);
            }
        }
        futureSeesEverything();
        System.out.println(compared + " calls that change nothing, " + wrong + " things not as due");
        if (wrong != 0) {
            System.exit(1);
        }
    }
}
