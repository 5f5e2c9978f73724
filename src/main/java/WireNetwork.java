/** Four nodes on one wire, on which frames are sent bit by bit, the most urgent one first. */
public final class WireNetwork {
    public static final int BAD = -1;
    public static final int NONE = -2;
    public static final int FULL = -3;
    public static final int EXISTS = -4;
    public static final int BUSY = -5;

    private static final int NODES = 4;
    private static final int IDS = 2048;
    private static final int MOST_BYTES = 8;
    private static final int MOST_ERRORS = 255;
    private static final int MOST_BITS_OF_A_RUN = 2000;
    private static final int FARTHEST_DISTURBANCE = 1000;

    private static final int WAITING_PLACES = 4;
    private static final int ALL_WAITING_PLACES = 16;
    private static final int INBOX_PLACES = 6;
    private static final int ALL_INBOX_PLACES = 24;

    private static final int PLAIN_BITS_TO_ID = 12;
    private static final int PLAIN_BITS_TO_LENGTH = 19;
    private static final int CHECK_BITS = 15;
    private static final int CHECK_MASK = 32767;
    private static final int CHECK_POLYNOMIAL = 17817;
    private static final int MOST_EQUAL_BITS = 5;
    private static final int UNSTUFFED_BITS = 10;

    private static final int BITS_AFTER_FIRST_LIMIT = 9;
    private static final int BITS_AFTER_ANSWER = 8;
    private static final int COMPLAINT_BITS = 14;
    private static final int PAUSE_BITS = 3;

    private static final int IDLE = 0;
    private static final int SENDING = 1;
    private static final int COMPLAINT = 2;
    private static final int PAUSE = 3;

    // The places of node n begin at n * WAITING_PLACES, and at n * INBOX_PLACES.
    private final int[] waitingId = new int[ALL_WAITING_PLACES];
    private final int[] waitingLength = new int[ALL_WAITING_PLACES];
    private final long[] waitingData = new long[ALL_WAITING_PLACES];
    private final int[] waitingCount = new int[NODES];

    private final int[] inboxFrame = new int[ALL_INBOX_PLACES];
    private final long[] inboxData = new long[ALL_INBOX_PLACES];
    private final int[] inboxCount = new int[NODES];
    private final int[] missedCount = new int[NODES];

    private final int[] filterMask = new int[NODES];
    private final int[] filterValue = new int[NODES];

    // Kept as "off", so that a new array already says what holds at first.
    private final boolean[] off = new boolean[NODES];
    private final int[] errorsInSending = new int[NODES];
    private final int[] errorsInReceiving = new int[NODES];

    private int bitTimes;
    private int sentCount;
    private int bitsToDisturbance;

    private int wireState;
    private int quietBitsLeft;

    // The frame under way is known by its id: its place may change when another one is cancelled.
    private int currentId;
    private int currentBitsGone;
    private int currentBitsToId;
    private int currentBits;

    /** All fields begin with the zeros that a new object asks for. */
    public WireNetwork() {
    }

    public int post(int code, int length, long data) {
        if (code < 0 || code >= NODES * IDS || !isGoodLength(length)) {
            return BAD;
        }
        int node = code / IDS;
        int id = code % IDS;
        if (placeOfWaiting(id) != NONE) {
            return EXISTS;
        }
        if (waitingCount[node] >= WAITING_PLACES) {
            return FULL;
        }
        int place = node * WAITING_PLACES + waitingCount[node];
        waitingId[place] = id;
        waitingLength[place] = length;
        waitingData[place] = lowestBytes(length, data);
        waitingCount[node]++;
        return waitingCount[node];
    }

    public int cancel(int id) {
        if (!isGoodId(id)) {
            return BAD;
        }
        int place = placeOfWaiting(id);
        if (place == NONE) {
            return NONE;
        }
        if (wireState == SENDING && currentId == id) {
            return BUSY;
        }
        removeWaiting(place);
        return place / WAITING_PLACES;
    }

    public int filter(int node, int mask, int value) {
        // Masks and values have the same range as ids.
        if (!isGoodNode(node) || !isGoodId(mask) || !isGoodId(value)) {
            return BAD;
        }
        filterMask[node] = mask;
        filterValue[node] = value;
        return 0;
    }

    public int restart(int node) {
        if (!isGoodNode(node)) {
            return BAD;
        }
        if (wireState == SENDING || wireState == COMPLAINT) {
            return BUSY;
        }
        int answer = off[node] ? 1 : 0;
        off[node] = false;
        errorsInSending[node] = 0;
        errorsInReceiving[node] = 0;
        return answer;
    }

    public int isOn(int node) {
        if (!isGoodNode(node)) {
            return BAD;
        }
        return off[node] ? 0 : 1;
    }

    public int sendErrors(int node) {
        return isGoodNode(node) ? errorsInSending[node] : BAD;
    }

    public int receiveErrors(int node) {
        return isGoodNode(node) ? errorsInReceiving[node] : BAD;
    }

    public int waiting(int node) {
        return isGoodNode(node) ? waitingCount[node] : BAD;
    }

    public int received(int node) {
        return isGoodNode(node) ? inboxCount[node] : BAD;
    }

    public int missed(int node) {
        return isGoodNode(node) ? missedCount[node] : BAD;
    }

    public int frameAt(int node, int i) {
        if (!isGoodNode(node)) {
            return BAD;
        }
        return isInInbox(node, i) ? inboxFrame[node * INBOX_PLACES + i] : NONE;
    }

    public long dataAt(int node, int i) {
        if (!isGoodNode(node) || !isInInbox(node, i)) {
            return 0L;
        }
        return inboxData[node * INBOX_PLACES + i];
    }

    public int take(int node) {
        if (!isGoodNode(node)) {
            return BAD;
        }
        if (inboxCount[node] == 0) {
            return NONE;
        }
        int first = node * INBOX_PLACES;
        int answer = inboxFrame[first];
        inboxCount[node]--;
        for (int place = first; place < first + inboxCount[node]; place++) {
            inboxFrame[place] = inboxFrame[place + 1];
            inboxData[place] = inboxData[place + 1];
        }
        return answer;
    }

    public int run(int bits) {
        if (bits < 0 || bits > MOST_BITS_OF_A_RUN) {
            return BAD;
        }
        int sentBefore = sentCount;
        for (int i = 0; i < bits; i++) {
            passBitTime();
        }
        return sentCount - sentBefore;
    }

    public int disturb(int n) {
        if (n < 1 || n > FARTHEST_DISTURBANCE) {
            return BAD;
        }
        bitsToDisturbance = n;
        return 0;
    }

    public int time() {
        return bitTimes;
    }

    public int wire() {
        return wireState;
    }

    public int underWay() {
        return wireState == SENDING ? currentId : NONE;
    }

    public int sent() {
        return sentCount;
    }

    public int bitsOf(int id, int length, long data) {
        if (!isGoodId(id) || !isGoodLength(length)) {
            return BAD;
        }
        int check = checkNumber(id, length, data);
        int plainBits = PLAIN_BITS_TO_LENGTH + 8 * length + CHECK_BITS;
        return bitsPutOut(id, length, data, check, plainBits) + UNSTUFFED_BITS;
    }

    private static boolean isGoodNode(int node) {
        return node >= 0 && node < NODES;
    }

    private static boolean isGoodId(int id) {
        return id >= 0 && id < IDS;
    }

    private static boolean isGoodLength(int length) {
        return length >= 0 && length <= MOST_BYTES;
    }

    private static long lowestBytes(int length, long data) {
        // A shift by 64 would be one by 0, so eight bytes are not masked.
        return length == MOST_BYTES ? data : data & ((1L << (8 * length)) - 1L);
    }

    private boolean isInInbox(int node, int i) {
        return i >= 0 && i < inboxCount[node];
    }

    private boolean isTaken(int place) {
        return place % WAITING_PLACES < waitingCount[place / WAITING_PLACES];
    }

    private int placeOfWaiting(int id) {
        for (int place = 0; place < ALL_WAITING_PLACES; place++) {
            if (isTaken(place) && waitingId[place] == id) {
                return place;
            }
        }
        return NONE;
    }

    private int placeOfMostUrgent() {
        int best = NONE;
        for (int place = 0; place < ALL_WAITING_PLACES; place++) {
            if (isTaken(place) && !off[place / WAITING_PLACES]
                    && (best == NONE || waitingId[place] < waitingId[best])) {
                best = place;
            }
        }
        return best;
    }

    private void removeWaiting(int removed) {
        int node = removed / WAITING_PLACES;
        waitingCount[node]--;
        int end = node * WAITING_PLACES + waitingCount[node];
        for (int place = removed; place < end; place++) {
            waitingId[place] = waitingId[place + 1];
            waitingLength[place] = waitingLength[place + 1];
            waitingData[place] = waitingData[place + 1];
        }
    }

    /** The plain bit with number i (0 the first) of a frame whose check number is check. */
    private static int plainBit(int id, int length, long data, int check, int i) {
        int dataEnd = PLAIN_BITS_TO_LENGTH + 8 * length;
        if (i < PLAIN_BITS_TO_LENGTH) {
            // The id stands above three zeros and four bits of length.
            int head = id << 7 | length;
            return head >> (PLAIN_BITS_TO_LENGTH - 1 - i) & 1;
        }
        if (i < dataEnd) {
            return (int) (data >> (dataEnd - 1 - i)) & 1;
        }
        return check >> (dataEnd + CHECK_BITS - 1 - i) & 1;
    }

    private static int checkNumber(int id, int length, long data) {
        int number = 0;
        int count = PLAIN_BITS_TO_LENGTH + 8 * length;
        for (int i = 0; i < count; i++) {
            int f = plainBit(id, length, data, 0, i) ^ (number >> (CHECK_BITS - 1));
            number = 2 * number & CHECK_MASK;
            if (f == 1) {
                number ^= CHECK_POLYNOMIAL;
            }
        }
        return number;
    }

    /** How many bits, stuffed ones included, are put out up to the last of the first count plain bits. */
    private static int bitsPutOut(int id, int length, long data, int check, int count) {
        int putOut = 0;
        int last = 0;
        int equal = 0;
        for (int i = 0; i < count; i++) {
            if (equal == MOST_EQUAL_BITS) {
                last = 1 - last;
                equal = 1;
                putOut++;
            }
            int bit = plainBit(id, length, data, check, i);
            equal = bit == last ? equal + 1 : 1;
            last = bit;
            putOut++;
        }
        return putOut;
    }

    private void passBitTime() {
        bitTimes++;
        boolean disturbed = bitsToDisturbance == 1;
        if (bitsToDisturbance > 0) {
            bitsToDisturbance--;
        }
        if (wireState == IDLE) {
            beginMostUrgent();
        }
        if (wireState == SENDING) {
            passFrameBit(disturbed);
        } else if (wireState != IDLE) {
            passQuietBit();
        }
    }

    private void beginMostUrgent() {
        int place = placeOfMostUrgent();
        if (place == NONE) {
            return;
        }
        int id = waitingId[place];
        int length = waitingLength[place];
        long data = waitingData[place];
        int check = checkNumber(id, length, data);
        int plainBits = PLAIN_BITS_TO_LENGTH + 8 * length + CHECK_BITS;
        currentId = id;
        currentBitsGone = 0;
        currentBitsToId = bitsPutOut(id, length, data, check, PLAIN_BITS_TO_ID);
        currentBits = bitsPutOut(id, length, data, check, plainBits) + UNSTUFFED_BITS;
        wireState = SENDING;
    }

    private void passFrameBit(boolean disturbed) {
        int place = placeOfWaiting(currentId);
        if (place == NONE) {
            // Never so, as a frame under way can't be cancelled; looked at before it is an index.
            return;
        }
        int node = place / WAITING_PLACES;
        currentBitsGone++;
        if (isBrokenOff(node, disturbed)) {
            breakOff(node);
        } else if (currentBitsGone == currentBits) {
            finish(place, node);
        }
    }

    private boolean isBrokenOff(int sender, boolean disturbed) {
        if (currentBitsGone == currentBits - BITS_AFTER_ANSWER) {
            return !isAnotherOn(sender);
        }
        return disturbed && currentBitsGone > currentBitsToId
                && currentBitsGone <= currentBits - BITS_AFTER_FIRST_LIMIT;
    }

    private boolean isAnotherOn(int sender) {
        for (int node = 0; node < NODES; node++) {
            if (node != sender && !off[node]) {
                return true;
            }
        }
        return false;
    }

    private void breakOff(int sender) {
        for (int node = 0; node < NODES; node++) {
            if (node != sender && !off[node] && errorsInReceiving[node] < MOST_ERRORS) {
                errorsInReceiving[node]++;
            }
        }
        errorsInSending[sender] += 8;
        if (errorsInSending[sender] > MOST_ERRORS) {
            off[sender] = true;
        }
        wireState = COMPLAINT;
        quietBitsLeft = COMPLAINT_BITS;
    }

    private void finish(int place, int sender) {
        int frame = 16 * waitingId[place] + waitingLength[place];
        long data = waitingData[place];
        removeWaiting(place);
        for (int node = 0; node < NODES; node++) {
            if (node != sender && !off[node]) {
                deliver(node, frame, data);
                errorsInReceiving[node] = oneLess(errorsInReceiving[node]);
            }
        }
        errorsInSending[sender] = oneLess(errorsInSending[sender]);
        sentCount++;
        wireState = PAUSE;
        quietBitsLeft = PAUSE_BITS;
    }

    private static int oneLess(int errors) {
        return errors > 0 ? errors - 1 : 0;
    }

    private void deliver(int node, int frame, long data) {
        int id = frame / 16;
        if (((id ^ filterValue[node]) & filterMask[node]) != 0) {
            return;
        }
        if (inboxCount[node] >= INBOX_PLACES) {
            missedCount[node]++;
            return;
        }
        int place = node * INBOX_PLACES + inboxCount[node];
        inboxFrame[place] = frame;
        inboxData[place] = data;
        inboxCount[node]++;
    }

    private void passQuietBit() {
        quietBitsLeft--;
        if (quietBitsLeft > 0) {
            return;
        }
        if (wireState == COMPLAINT) {
            wireState = PAUSE;
            quietBitsLeft = PAUSE_BITS;
        } else {
            wireState = IDLE;
        }
    }
}
