/** Objects for the tests to begin with, and all that can be found out about an object. */
final class Samples implements Names {
    private static final int ALL_ITEMS = 400;

    private Samples() {
    }

    static int pushPlain(LeaseQueue x, int queue) {
        return x.push(queue, 5, 0, 0, 0);
    }

    static void pushMany(LeaseQueue x, int queue, int many) {
        for (int i = 0; i < many; i++) {
            pushPlain(x, queue);
        }
    }

    /** A new object with so many plain items in queue 0. */
    static LeaseQueue withItems(int many) {
        LeaseQueue x = new LeaseQueue();
        pushMany(x, 0, many);
        return x;
    }

    /**
     * Seven items in all states, limits, tries and rates that are not the first ones, two items told
     * by await(), and takes that are not written: whatever a call changes, or writes, can be seen.
     */
    static LeaseQueue busy() {
        LeaseQueue x = new LeaseQueue();
        x.pass(7);
        x.tries(1, 1);
        x.limit(2, 4);
        x.push(0, 5, 0, 11, 7);
        x.push(0, 3, 0, 12, 0);
        x.push(1, 4, 0, 13, 0);
        x.push(2, 4, 0, 14, 9);
        x.await(1);
        x.push(0, 2, 0, 15, 0);
        x.push(3, 6, 9, 16, 0);
        x.push(3, 6, 0, 17, 0);
        x.take(1, 1, 5);
        x.fail(1, 3, 2);
        x.take(2, 1, 5);
        x.done(1, 4);
        x.pass(1);
        x.take(3, 2, 20);
        x.take(0, 0, 10);
        for (int queue = 0; queue < 4; queue++) {
            x.rate(queue, 1, 50 + queue);
        }
        x.await(1);
        x.await(6);
        return x;
    }

    /** As many items as there may be, all but the last one plain ones in queue 0; item 400 has key 49. */
    static LeaseQueue full() {
        LeaseQueue x = withItems(ALL_ITEMS - 1);
        x.push(1, 5, 0, 0, 49);
        return x;
    }

    /** What can be seen without changing anything. */
    static String seenOf(LeaseQueue x) {
        StringBuilder all = new StringBuilder("    totals");
        for (int what = 0; what <= 8; what++) {
            all.append(' ').append(x.total(what));
        }
        for (int queue = 0; queue < 4; queue++) {
            all.append(", queue ").append(queue).append(" next ").append(x.next(queue)).append(" counts");
            for (int state = OPEN; state <= READY; state++) {
                all.append(' ').append(x.count(queue, state));
            }
            int ready = x.peek(queue, 0);
            for (int i = 1; ready != NONE; i++) {
                all.append(" ready ").append(ready);
                ready = x.peek(queue, i);
            }
        }
        for (int item = 1; item <= x.total(ITEMS); item++) {
            all.append(", item ").append(item);
            for (int what = QUEUE; what <= WAITS; what++) {
                all.append(' ').append(x.about(item, what));
            }
        }
        return all.append(System.lineSeparator()).toString();
    }

    /** All that can be found out about an object with a few items, what was written last, too. */
    static String allOf(LeaseQueue x) {
        StringBuilder all = new StringBuilder(seenOf(x));
        all.append("    limits");
        for (int consumer = 0; consumer < 8; consumer++) {
            all.append(' ').append(x.limit(consumer, 1));
        }
        all.append(", tries");
        for (int queue = 0; queue < 4; queue++) {
            all.append(' ').append(x.tries(queue, 1));
        }
        all.append(", latest takes");
        for (int queue = 0; queue < 4; queue++) {
            for (int n = 1; n <= 3; n++) {
                x.rate(queue, n, 1000);
                all.append(' ').append(x.total(RATE_OF_QUEUE_0 + queue));
            }
        }
        all.append(", await");
        for (int item = 1; item <= x.total(ITEMS); item++) {
            all.append(' ').append(toldAgain(x, item));
        }
        all.append(", safe ").append(x.safe(true)).append(", crash ").append(x.crash());
        return all.append(System.lineSeparator()).append(seenOf(x)).toString();
    }

    private static String toldAgain(LeaseQueue x, int item) {
        try {
            return Integer.toString(x.await(item));
        } catch (IllegalStateException e) {
            return "four";
        }
    }
}
