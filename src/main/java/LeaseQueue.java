import java.util.Arrays;

/** Queues of items that are handed out on lease; ../shared/DOC.md says what each call promises. */
public final class LeaseQueue {
    public static final int NONE = -1;

    private static final int QUEUES = 4;
    private static final int CONSUMERS = 8;
    private static final int MOST_ITEMS = 400;
    private static final int MOST_WAITS = 3;
    private static final int LAST_PRIORITY = 9;
    private static final int LONGEST_DELAY = 1000;
    private static final int LONGEST_LEASE = 1000;
    private static final int LONGEST_PASS = 2000;
    private static final int FIRST_LIMIT = 3;
    private static final int HIGHEST_LIMIT = 20;
    private static final int FIRST_TRIES = 3;
    private static final int HIGHEST_TRIES = 20;
    private static final int HIGHEST_RATE = 100;
    private static final int LONGEST_SPAN = 1000;
    private static final int SHORT_LOG = 40;

    private static final int OPEN = 0;
    private static final int LEASED = 1;
    private static final int DONE = 2;
    private static final int ASIDE = 3;
    private static final int READY = 4;

    private final Items items;
    private final Written written;
    private final Throttle[] throttles;
    private final int[] limits;
    private final int[] queueTries;
    private final int[] awaited;
    private int awaitedMany;
    private int time;
    private boolean safeOn;
    private int records;
    private int compactings;
    private int crashes;

    public LeaseQueue() {
        items = new Items();
        written = new Written();
        throttles = new Throttle[QUEUES];
        for (int queue = 0; queue < QUEUES; queue++) {
            throttles[queue] = new Throttle();
        }
        limits = new int[CONSUMERS];
        Arrays.fill(limits, FIRST_LIMIT);
        queueTries = new int[QUEUES];
        Arrays.fill(queueTries, FIRST_TRIES);
        awaited = new int[MOST_WAITS];
        safeOn = true;
    }

    public int push(int queue, int priority, int delay, int body, int key)
            throws IllegalArgumentException, UnsupportedOperationException {
        require(isQueue(queue) && isWithin(priority, 0, LAST_PRIORITY));
        require(isWithin(delay, 0, LONGEST_DELAY) && key >= 0);
        // The document names this exception without regard to the key, so it comes before the search.
        if (items.made >= MOST_ITEMS) {
            throw new UnsupportedOperationException("there are 400 items");
        }
        int item = items.notDoneWithKey(queue, key);
        if (item == NONE) {
            item = items.add(queue, priority, time + delay, body, key);
            items.setWaits(item, awaited, awaitedMany);
            awaitedMany = 0;
            records++;
        }
        writeIfSafe();
        return item;
    }

    public int await(int item) throws IllegalArgumentException, IllegalStateException {
        require(isItem(item));
        if (isAwaited(item)) {
            return awaitedMany;
        }
        if (awaitedMany >= MOST_WAITS) {
            throw new IllegalStateException("an item waits for three at most");
        }
        awaited[awaitedMany] = item;
        awaitedMany++;
        return awaitedMany;
    }

    public int take(int queue, int consumer, int lease) throws IllegalArgumentException {
        require(isQueue(queue) && isConsumer(consumer) && isWithin(lease, 1, LONGEST_LEASE));
        if (hasItsLimit(consumer)) {
            return NONE;
        }
        return leaseOut(firstToGo(queue), consumer, lease);
    }

    public int takeAny(int consumer, int lease) throws IllegalArgumentException {
        require(isConsumer(consumer) && isWithin(lease, 1, LONGEST_LEASE));
        if (hasItsLimit(consumer)) {
            return NONE;
        }
        int first = NONE;
        for (int queue = 0; queue < QUEUES; queue++) {
            int item = firstToGo(queue);
            if (item != NONE && (first == NONE || items.comesBefore(item, first))) {
                first = item;
            }
        }
        return leaseOut(first, consumer, lease);
    }

    public boolean done(int consumer, int item) throws IllegalArgumentException {
        require(isConsumer(consumer) && isItem(item));
        boolean had = items.isLeasedTo(item, consumer);
        if (had) {
            items.endLease(item, DONE);
            records++;
        }
        writeIfSafe();
        return had;
    }

    public boolean fail(int consumer, int item, int delay) throws IllegalArgumentException {
        require(isConsumer(consumer) && isItem(item) && isWithin(delay, 0, LONGEST_DELAY));
        boolean had = items.isLeasedTo(item, consumer);
        if (had) {
            if (!isTriedOut(item)) {
                items.due[item] = time + delay;
            }
            comeBack(item);
        }
        writeIfSafe();
        return had;
    }

    public boolean extend(int consumer, int item, int lease) throws IllegalArgumentException {
        require(isConsumer(consumer) && isItem(item) && isWithin(lease, 1, LONGEST_LEASE));
        boolean had = items.isLeasedTo(item, consumer);
        if (had) {
            items.until[item] = time + lease;
        }
        return had;
    }

    public int chance(int queue) throws IllegalArgumentException {
        require(isQueue(queue));
        int many = 0;
        for (int item = 1; item <= items.made; item++) {
            if (items.isIn(item, queue, ASIDE)) {
                items.state[item] = OPEN;
                items.due[item] = time;
                items.tries[item] = 0;
                many++;
            }
        }
        records += many;
        writeIfSafe();
        return many;
    }

    public int pass(int n) throws IllegalArgumentException {
        require(isWithin(n, 0, LONGEST_PASS));
        time += n;
        int ended = 0;
        for (int item = 1; item <= items.made; item++) {
            if (items.state[item] == LEASED && items.until[item] <= time) {
                comeBack(item);
                ended++;
            }
        }
        if (ended > 0) {
            writeIfSafe();
        }
        return ended;
    }

    public int write() {
        writeAll();
        return records;
    }

    public int crash() {
        written.bringBack(items);
        records = written.records;
        awaitedMany = 0;
        crashes++;
        return items.made;
    }

    public boolean safe(boolean on) {
        boolean was = safeOn;
        safeOn = on;
        return was;
    }

    public int limit(int consumer, int most) throws IllegalArgumentException {
        require(isConsumer(consumer) && isWithin(most, 0, HIGHEST_LIMIT));
        int was = limits[consumer];
        limits[consumer] = most;
        return was;
    }

    public void rate(int queue, int n, int w) throws IllegalArgumentException {
        require(isQueue(queue) && isWithin(n, 0, HIGHEST_RATE) && isWithin(w, 1, LONGEST_SPAN));
        throttles[queue].most = n;
        throttles[queue].span = w;
    }

    public int tries(int queue, int most) throws IllegalArgumentException {
        require(isQueue(queue) && isWithin(most, 1, HIGHEST_TRIES));
        int was = queueTries[queue];
        queueTries[queue] = most;
        return was;
    }

    public int about(int item, int what) throws IllegalArgumentException {
        require(isItem(item) && isWithin(what, 0, 9));
        switch (what) {
            case 0: return items.queue[item];
            case 1: return items.priority[item];
            case 2: return items.due[item];
            case 3: return items.body[item];
            case 4: return items.key[item];
            case 5: return items.state[item];
            case 6: return items.consumer[item];
            case 7: return items.until[item];
            case 8: return items.tries[item];
            default: return items.waitsLeft(item);
        }
    }

    public int count(int queue, int state) throws IllegalArgumentException {
        require(isQueue(queue) && isWithin(state, OPEN, READY));
        int many = 0;
        for (int item = 1; item <= items.made; item++) {
            boolean counts = state == READY
                    ? items.isReadyIn(item, queue, time)
                    : items.isIn(item, queue, state);
            if (counts) {
                many++;
            }
        }
        return many;
    }

    public int peek(int queue, int i) throws IllegalArgumentException {
        require(isQueue(queue));
        if (!isWithin(i, 0, items.made - 1)) {
            return NONE;
        }
        int item = items.firstReady(queue, time);
        for (int k = 0; k < i && item != NONE; k++) {
            item = items.firstReadyBehind(item, queue, time);
        }
        return item;
    }

    public int next(int queue) throws IllegalArgumentException {
        require(isQueue(queue));
        int least = NONE;
        for (int item = 1; item <= items.made; item++) {
            if (items.queue[item] == queue) {
                int from = readyFrom(item);
                if (from != NONE && (least == NONE || from < least)) {
                    least = from;
                }
            }
        }
        return least;
    }

    public int total(int what) throws IllegalArgumentException {
        require(isWithin(what, 0, 4 + QUEUES));
        switch (what) {
            case 0: return time;
            case 1: return items.made;
            case 2: return records;
            case 3: return compactings;
            case 4: return crashes;
            default: return throttles[what - 5].unitsToWait(time);
        }
    }

    private static void require(boolean asItMayBe) {
        if (!asItMayBe) {
            throw new IllegalArgumentException("no such queue, consumer or item, or a wrong number");
        }
    }

    private static boolean isWithin(int number, int least, int most) {
        return number >= least && number <= most;
    }

    private static boolean isQueue(int queue) {
        return isWithin(queue, 0, QUEUES - 1);
    }

    private static boolean isConsumer(int consumer) {
        return isWithin(consumer, 0, CONSUMERS - 1);
    }

    private boolean isItem(int item) {
        return isWithin(item, 1, items.made);
    }

    private boolean isAwaited(int item) {
        for (int i = 0; i < awaitedMany; i++) {
            if (awaited[i] == item) {
                return true;
            }
        }
        return false;
    }

    private boolean hasItsLimit(int consumer) {
        return items.leasedTo(consumer) >= limits[consumer];
    }

    private int firstToGo(int queue) {
        return throttles[queue].unitsToWait(time) > 0 ? NONE : items.firstReady(queue, time);
    }

    private int leaseOut(int item, int consumer, int lease) {
        if (item != NONE) {
            items.startLease(item, consumer, time + lease);
            throttles[items.queue[item]].note(time);
            records++;
        }
        return item;
    }

    // An item can have more tries than its queue's: these can be lowered, and a crash opens it on its last try.
    private boolean isTriedOut(int item) {
        return items.tries[item] >= queueTries[items.queue[item]];
    }

    private void comeBack(int item) {
        items.endLease(item, isTriedOut(item) ? ASIDE : OPEN);
        records++;
    }

    private int readyFrom(int item) {
        if (items.waitsLeft(item) > 0) {
            return NONE;
        }
        if (items.state[item] == OPEN) {
            return Math.max(time, items.due[item]);
        }
        if (items.state[item] == LEASED && !isTriedOut(item)) {
            return Math.max(items.until[item], items.due[item]);
        }
        return NONE;
    }

    private void writeIfSafe() {
        if (safeOn) {
            writeAll();
        }
    }

    private void writeAll() {
        int notDone = items.notDone();
        if (records > SHORT_LOG && records > 2 * notDone) {
            records = notDone;
            compactings++;
        }
        written.keep(items, records);
    }

    /** All items, a row for each thing told of them; an item's number is its place, place 0 stays unused. */
    private static final class Items {
        int made;
        final int[] queue;
        final int[] priority;
        final int[] due;
        final int[] body;
        final int[] key;
        final int[] state;
        final int[] consumer;
        final int[] until;
        final int[] tries;
        final int[] waitsMany;
        final int[][] waits;

        Items() {
            queue = new int[MOST_ITEMS + 1];
            priority = new int[MOST_ITEMS + 1];
            due = new int[MOST_ITEMS + 1];
            body = new int[MOST_ITEMS + 1];
            key = new int[MOST_ITEMS + 1];
            state = new int[MOST_ITEMS + 1];
            consumer = new int[MOST_ITEMS + 1];
            until = new int[MOST_ITEMS + 1];
            tries = new int[MOST_ITEMS + 1];
            waitsMany = new int[MOST_ITEMS + 1];
            waits = new int[MOST_WAITS][MOST_ITEMS + 1];
        }

        int add(int itsQueue, int itsPriority, int itsDue, int itsBody, int itsKey) {
            made++;
            queue[made] = itsQueue;
            priority[made] = itsPriority;
            due[made] = itsDue;
            body[made] = itsBody;
            key[made] = itsKey;
            tries[made] = 0;
            endLease(made, OPEN);
            return made;
        }

        void setWaits(int item, int[] others, int many) {
            waitsMany[item] = many;
            for (int i = 0; i < many; i++) {
                waits[i][item] = others[i];
            }
        }

        void startLease(int item, int toConsumer, int untilTime) {
            state[item] = LEASED;
            consumer[item] = toConsumer;
            until[item] = untilTime;
            tries[item]++;
        }

        void endLease(int item, int newState) {
            state[item] = newState;
            consumer[item] = NONE;
            until[item] = NONE;
        }

        boolean isLeasedTo(int item, int someConsumer) {
            return state[item] == LEASED && consumer[item] == someConsumer;
        }

        boolean isIn(int item, int someQueue, int someState) {
            return queue[item] == someQueue && state[item] == someState;
        }

        boolean isReadyIn(int item, int someQueue, int time) {
            return isIn(item, someQueue, OPEN) && due[item] <= time && waitsLeft(item) == 0;
        }

        int waitsLeft(int item) {
            int left = 0;
            for (int i = 0; i < waitsMany[item]; i++) {
                if (state[waits[i][item]] != DONE) {
                    left++;
                }
            }
            return left;
        }

        boolean comesBefore(int item, int other) {
            if (priority[item] != priority[other]) {
                return priority[item] < priority[other];
            }
            if (due[item] != due[other]) {
                return due[item] < due[other];
            }
            return item < other;
        }

        int firstReady(int someQueue, int time) {
            return firstReadyBehind(NONE, someQueue, time);
        }

        /** The first ready item that comes behind another one; behind NONE all of them come. */
        int firstReadyBehind(int other, int someQueue, int time) {
            int first = NONE;
            for (int item = 1; item <= made; item++) {
                if (isReadyIn(item, someQueue, time)
                        && (other == NONE || comesBefore(other, item))
                        && (first == NONE || comesBefore(item, first))) {
                    first = item;
                }
            }
            return first;
        }

        int notDoneWithKey(int someQueue, int someKey) {
            if (someKey == 0) {
                return NONE;
            }
            for (int item = 1; item <= made; item++) {
                if (key[item] == someKey && queue[item] == someQueue && state[item] != DONE) {
                    return item;
                }
            }
            return NONE;
        }

        int leasedTo(int someConsumer) {
            int many = 0;
            for (int item = 1; item <= made; item++) {
                if (isLeasedTo(item, someConsumer)) {
                    many++;
                }
            }
            return many;
        }

        int notDone() {
            int many = 0;
            for (int item = 1; item <= made; item++) {
                if (state[item] != DONE) {
                    many++;
                }
            }
            return many;
        }
    }

    /**
     * What was written last. Only what can change behind an item's push is kept: the places of
     * written items are not used again, since a crash never leaves fewer items than were written.
     */
    private static final class Written {
        int made;
        int records;
        final int[] due;
        final int[] state;
        final int[] tries;

        Written() {
            due = new int[MOST_ITEMS + 1];
            state = new int[MOST_ITEMS + 1];
            tries = new int[MOST_ITEMS + 1];
        }

        void keep(Items items, int recordsNow) {
            made = items.made;
            records = recordsNow;
            System.arraycopy(items.due, 0, due, 0, made + 1);
            System.arraycopy(items.state, 0, state, 0, made + 1);
            System.arraycopy(items.tries, 0, tries, 0, made + 1);
        }

        void bringBack(Items items) {
            items.made = made;
            for (int item = 1; item <= made; item++) {
                items.due[item] = due[item];
                items.tries[item] = tries[item];
                items.endLease(item, state[item] == LEASED ? OPEN : state[item]);
            }
        }
    }

    /** A queue's rate, and when items were taken from it. */
    private static final class Throttle {
        int most;
        int span;
        // No rate asks for more than the latest HIGHEST_RATE takes, so older ones are written over.
        final int[] takenAt;
        int noted;
        int nextPlace;

        Throttle() {
            takenAt = new int[HIGHEST_RATE];
        }

        void note(int time) {
            takenAt[nextPlace] = time;
            nextPlace = (nextPlace + 1) % HIGHEST_RATE;
            noted = Math.min(noted + 1, HIGHEST_RATE);
        }

        /** Time never goes back: the rate is reached as long as the most-th latest take is within the span. */
        int unitsToWait(int time) {
            if (most == 0 || noted < most) {
                return 0;
            }
            int place = Math.floorMod(nextPlace - most, HIGHEST_RATE);
            return Math.max(0, takenAt[place] + span - time);
        }
    }
}
