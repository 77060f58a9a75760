import static java.lang.Integer.MAX_VALUE;
import static java.lang.Integer.MIN_VALUE;

/**
 * Promises 17 to 21, about, count, peek, next, total, and the terms READY and THE ORDER: a test for
 * each sentence that names a boundary case.
 */
public final class EdgesOfAnswersTest implements Names {
    private EdgesOfAnswersTest() {
    }

    public static void main(String[] args) {
        Checks.runAll(EdgesOfAnswersTest.class);
    }

    // ---- all of them

    static void questionsChangeNothing() {
        Checks.sentence("17 to 21: about, count, peek, next, total");
        Checks.changesNothing("asking all", Samples::busy, Samples::seenOf);
    }

    // ---- promise 17

    static void aboutEachStateOfAnItem() {
        Checks.sentence("17: consumer (6) and until (7; NONE both unless it is leased)");
        LeaseQueue x = new LeaseQueue();
        x.tries(0, 2);
        x.pass(1);
        x.push(0, 9, 1000, MIN_VALUE, MAX_VALUE);
        isAbout(x, 0, 9, 1001, MIN_VALUE, MAX_VALUE, OPEN, NONE, NONE, 0, 0);
        x.pass(1000);
        x.take(0, 0, 1);
        isAbout(x, 0, 9, 1001, MIN_VALUE, MAX_VALUE, LEASED, 0, 1002, 1, 0);
        x.pass(1);
        isAbout(x, 0, 9, 1001, MIN_VALUE, MAX_VALUE, OPEN, NONE, NONE, 1, 0);
        x.take(0, 7, 1000);
        isAbout(x, 0, 9, 1001, MIN_VALUE, MAX_VALUE, LEASED, 7, 2002, 2, 0);
        x.fail(7, 1, 1000);
        isAbout(x, 0, 9, 1001, MIN_VALUE, MAX_VALUE, ASIDE, NONE, NONE, 2, 0);
        x.chance(0);
        isAbout(x, 0, 9, 1002, MIN_VALUE, MAX_VALUE, OPEN, NONE, NONE, 0, 0);
        x.take(0, 3, 5);
        x.done(3, 1);
        isAbout(x, 0, 9, 1002, MIN_VALUE, MAX_VALUE, DONE, NONE, NONE, 1, 0);
    }

    static void aboutHowManyItWaitsFor() {
        Checks.sentence("17: how many it waits for that are not done (9)");
        LeaseQueue x = Samples.withItems(3);
        x.tries(0, 1);
        for (int item = 1; item <= 3; item++) {
            x.await(item);
        }
        Samples.pushPlain(x, 1);
        Checks.same("three open", 3, x.about(4, WAITS));
        x.take(0, 0, 5);
        Checks.same("one leased", 3, x.about(4, WAITS));
        x.fail(0, 1, 0);
        Checks.same("one aside", 3, x.about(4, WAITS));
        for (int item = 2; item <= 3; item++) {
            x.take(0, 0, 5);
            x.done(0, item);
            Checks.same("done up to " + item, 4 - item, x.about(4, WAITS));
        }
        x.chance(0);
        x.take(0, 0, 5);
        x.done(0, 1);
        Checks.same("all done", 0, x.about(4, WAITS));
        Checks.same("one that others wait for waits for none", 0, x.about(1, WAITS));
    }

    static void aboutRefusesItemsThatAreNotThere() {
        Checks.sentence("17: IllegalArgumentException: there is no such .. item");
        Checks.onlyWithin("item", 1, 7, (x, n) -> x.about(n, STATE));
        LeaseQueue x = Samples.full();
        Checks.same("the first of 400", 0, x.about(1, QUEUE));
        Checks.same("the last of 400", 1, x.about(400, QUEUE));
        Checks.refused("the one before", () -> x.about(0, QUEUE));
        Checks.refused("the one behind", () -> x.about(401, QUEUE));
    }

    static void aboutRefusesWrongQuestions() {
        Checks.sentence("17: IllegalArgumentException: a number is not as it may be");
        Checks.onlyWithin("what", 0, 9, (x, n) -> x.about(1, n));
        Checks.refused("no such item and no such question", () -> new LeaseQueue().about(1, 10));
    }

    // ---- promise 18

    static void countOfEmptyQueues() {
        Checks.sentence("18: How many items of a queue have a state (0 .. 3), are ready (4).");
        LeaseQueue x = Samples.withItems(1);
        for (int queue = 0; queue < 4; queue++) {
            for (int state = OPEN; state <= READY; state++) {
                int due = queue == 0 && (state == OPEN || state == READY) ? 1 : 0;
                Checks.same("count(" + queue + ", " + state + ")", due, x.count(queue, state));
            }
        }
    }

    static void countOfAFullQueue() {
        Checks.sentence("18: How many items of a queue have a state (0 .. 3), are ready (4).");
        LeaseQueue x = new LeaseQueue();
        Samples.pushMany(x, 3, 400);
        Checks.same("open", 400, x.count(3, OPEN));
        Checks.same("ready", 400, x.count(3, READY));
        x.take(3, 0, 5);
        Checks.same("open", 399, x.count(3, OPEN));
        Checks.same("ready", 399, x.count(3, READY));
        Checks.same("leased", 1, x.count(3, LEASED));
    }

    static void countFollowsAnItemsState() {
        Checks.sentence("18: How many items of a queue have a state (0 .. 3), are ready (4).");
        LeaseQueue x = new LeaseQueue();
        x.tries(2, 1);
        x.push(2, 5, 1, 0, 0);
        hasCounts(x, "open, not due", 1, 0, 0, 0, 0);
        x.pass(1);
        hasCounts(x, "ready", 1, 0, 0, 0, 1);
        x.take(2, 0, 5);
        hasCounts(x, "leased", 0, 1, 0, 0, 0);
        x.pass(5);
        hasCounts(x, "aside", 0, 0, 0, 1, 0);
        x.chance(2);
        hasCounts(x, "ready", 1, 0, 0, 0, 1);
        x.take(2, 0, 5);
        x.done(0, 1);
        hasCounts(x, "done", 0, 0, 1, 0, 0);
    }

    static void countRefusesWrongQueues() {
        Checks.sentence("18: IllegalArgumentException: there is no such queue");
        Checks.onlyWithin("queue", 0, 3, (x, n) -> x.count(n, READY));
        Checks.onlyWithin("queue", 0, 3, (x, n) -> x.count(n, OPEN));
    }

    static void countRefusesWrongStates() {
        Checks.sentence("18: IllegalArgumentException: a number is not as it may be");
        Checks.onlyWithin("state", 0, 4, (x, n) -> x.count(0, n));
    }

    // ---- promise 19

    static void peekBeforeAndBehindTheReadyItems() {
        Checks.sentence("19: NONE when there is none.");
        LeaseQueue x = Samples.withItems(3);
        int[][] dueOf = {{MIN_VALUE, NONE}, {-1, NONE}, {0, 1}, {1, 2}, {2, 3}, {3, NONE}, {4, NONE}, {400, NONE},
            {MAX_VALUE, NONE}};
        for (int[] due : dueOf) {
            Checks.same("peek(0, " + due[0] + ")", due[1], x.peek(0, due[0]));
        }
        for (int queue = 0; queue < 4; queue++) {
            Checks.same("of a new object", NONE, new LeaseQueue().peek(queue, 0));
        }
        Checks.same("of an empty queue", NONE, x.peek(3, 0));
    }

    static void peekOfAFullQueue() {
        Checks.sentence("19: Ready item i of a queue in the order");
        LeaseQueue x = new LeaseQueue();
        for (int i = 0; i < 400; i++) {
            x.push(3, 9 - i / 40, 0, 0, 0);
        }
        Checks.same("the first", 361, x.peek(3, 0));
        Checks.same("the last of the first priority", 400, x.peek(3, 39));
        Checks.same("the first of the next priority", 321, x.peek(3, 40));
        Checks.same("the last", 40, x.peek(3, 399));
        Checks.same("behind the last", NONE, x.peek(3, 400));
        Checks.same("before the first", NONE, x.peek(3, -1));
    }

    static void peekOfReadyItemsAlone() {
        Checks.sentence("19: Ready item i of a queue");
        LeaseQueue x = new LeaseQueue();
        x.tries(0, 1);
        Samples.pushMany(x, 0, 4);
        x.push(0, 0, 1, 0, 0);
        x.await(5);
        x.push(0, 0, 0, 0, 0);
        x.push(1, 0, 0, 0, 0);
        x.take(0, 0, 9);
        x.take(0, 0, 9);
        x.take(0, 0, 9);
        x.fail(0, 2, 0);
        x.done(0, 3);
        Checks.same("the only one", 4, x.peek(0, 0));
        for (int i = 1; i <= 7; i++) {
            Checks.same("neither leased, aside, done, due later nor waiting", NONE, x.peek(0, i));
        }
    }

    static void peekIsNotHeldByLimitOrRate() {
        Checks.sentence("19: Ready item i of a queue");
        LeaseQueue x = Samples.withItems(2);
        x.rate(0, 1, 1000);
        x.take(0, 0, 9);
        for (int consumer = 0; consumer < 8; consumer++) {
            x.limit(consumer, 0);
        }
        Checks.same("peek", 2, x.peek(0, 0));
    }

    static void peekRefusesWrongQueues() {
        Checks.sentence("19: IllegalArgumentException: there is no such queue.");
        Checks.onlyWithin("queue", 0, 3, (x, n) -> x.peek(n, 0));
        Checks.onlyWithin("queue", 0, 3, (x, n) -> x.peek(n, -1));
    }

    // ---- promise 20

    static void nextOfNone() {
        Checks.sentence("20: NONE when there is none.");
        LeaseQueue x = new LeaseQueue();
        for (int queue = 0; queue < 4; queue++) {
            Checks.same("of a new object", NONE, x.next(queue));
        }
        x.tries(0, 1);
        Samples.pushMany(x, 0, 2);
        Checks.same("of an empty queue", NONE, x.next(1));
        x.take(0, 0, 5);
        x.take(0, 0, 5);
        x.done(0, 1);
        x.fail(0, 2, 0);
        Checks.same("of done and aside items", NONE, x.next(0));
        x.await(2);
        Samples.pushPlain(x, 0);
        Checks.same("of one that waits", NONE, x.next(0));
    }

    static void nextFromTimeOn() {
        Checks.sentence("20: The least time from TIME on at which a queue would have a ready item");
        LeaseQueue x = new LeaseQueue();
        x.pass(5);
        x.push(0, 5, 3, 0, 0);
        Checks.same("due later", 8, x.next(0));
        x.pass(2);
        Checks.same("due in a unit", 8, x.next(0));
        x.pass(1);
        Checks.same("due now", 8, x.next(0));
        x.pass(1);
        Checks.same("due before", 9, x.next(0));
        x.pass(2000);
        Checks.same("due long before", 2009, x.next(0));
    }

    static void nextAtTimeZeroAndFarAway() {
        Checks.sentence("20: The least time from TIME on at which a queue would have a ready item");
        LeaseQueue x = new LeaseQueue();
        x.push(1, 5, 1000, 0, 0);
        Checks.same("the longest delay", 1000, x.next(1));
        x.push(1, 9, 999, 0, 0);
        Checks.same("a unit less, of the last priority", 999, x.next(1));
        x.push(1, 9, 0, 0, 0);
        Checks.same("at time 0", 0, x.next(1));
        Checks.same("it is taken", 3, x.take(1, 0, 998));
        Checks.same("its lease ends a unit before", 998, x.next(1));
        x.extend(0, 3, 1000);
        Checks.same("its lease ends a unit behind", 999, x.next(1));
    }

    static void nextWhenLeasesEnd() {
        Checks.sentence("20: if only time passed (leases end then)");
        LeaseQueue x = Samples.withItems(2);
        x.take(0, 0, 9);
        x.take(0, 0, 4);
        Checks.same("the lease that ends first", 4, x.next(0));
        x.pass(3);
        Checks.same("a unit before", 4, x.next(0));
        x.done(0, 2);
        Checks.same("the other lease", 9, x.next(0));
        x.pass(6);
        Checks.same("when it has ended", 9, x.next(0));
    }

    static void nextWhenLeasesEndAside() {
        Checks.sentence("20: if only time passed (leases end then)");
        LeaseQueue x = Samples.withItems(1);
        x.tries(0, 2);
        x.take(0, 0, 9);
        Checks.same("one try less than its queue's: open then", 9, x.next(0));
        x.tries(0, 1);
        Checks.same("as many tries as its queue's: aside then", NONE, x.next(0));
        x.pass(9);
        Checks.same("aside", NONE, x.next(0));
        LeaseQueue y = Samples.withItems(1);
        y.take(0, 0, 1);
        y.pass(1);
        y.take(0, 0, 9);
        y.tries(0, 1);
        Checks.same("more tries than its queue's: aside then", NONE, y.next(0));
    }

    static void nextOfWhatWaits() {
        Checks.sentence("20: if only time passed");
        LeaseQueue x = Samples.withItems(1);
        x.await(1);
        x.push(1, 5, 6, 0, 0);
        Checks.same("it waits for an open item", NONE, x.next(1));
        x.take(0, 0, 5);
        Checks.same("it waits for a leased item", NONE, x.next(1));
        x.done(0, 1);
        Checks.same("it waits for a done item", 6, x.next(1));
    }

    static void nextIsNotHeldByLimitOrRate() {
        Checks.sentence("20: The least time from TIME on at which a queue would have a ready item");
        LeaseQueue x = Samples.withItems(2);
        x.rate(0, 1, 1000);
        x.take(0, 0, 9);
        for (int consumer = 0; consumer < 8; consumer++) {
            x.limit(consumer, 0);
        }
        Checks.same("next", 0, x.next(0));
    }

    static void nextIsWhatTimeBrings() {
        Checks.sentence("20: The least time from TIME on at which a queue would have a ready item");
        for (int delay = 0; delay <= 3; delay++) {
            LeaseQueue x = new LeaseQueue();
            x.push(0, 5, delay, 0, 0);
            int at = x.next(0);
            for (int time = 0; time <= 3; time++) {
                Checks.same("ready at " + time, time >= at ? 1 : 0, x.count(0, READY));
                x.pass(1);
            }
        }
    }

    static void nextRefusesWrongQueues() {
        Checks.sentence("20: IllegalArgumentException: there is no such queue");
        Checks.onlyWithin("queue", 0, 3, LeaseQueue::next);
    }

    // ---- promise 21

    static void totalsOfANewObject() {
        Checks.sentence("21: TIME (what = 0), how many items (1), records in the log (2),"
                + " how often it was compacted (3), crashes (4)");
        LeaseQueue x = new LeaseQueue();
        for (int what = 0; what <= 8; what++) {
            Checks.same("total(" + what + ")", 0, x.total(what));
        }
    }

    static void totalsOfAFullObject() {
        Checks.sentence("21: how many items (1), records in the log (2)");
        LeaseQueue x = Samples.full();
        Checks.same("TIME", 0, x.total(TIME));
        Checks.same("items", 400, x.total(ITEMS));
        Checks.same("records", 400, x.total(RECORDS));
        Checks.same("compactings", 0, x.total(COMPACTINGS));
        Checks.same("crashes", 0, x.total(CRASHES));
    }

    static void totalOfUnitsToWait() {
        Checks.sentence("21: how many units a queue must wait for its rate: 0 if it may"
                + " (5 .. 8 for the queues 0 .. 3)");
        for (int queue = 0; queue < 4; queue++) {
            LeaseQueue x = new LeaseQueue();
            Samples.pushMany(x, queue, 2);
            x.rate(queue, 1, 1000);
            Checks.same("nothing was taken", 0, x.total(RATE_OF_QUEUE_0 + queue));
            x.take(queue, 0, 5);
            for (int other = 0; other < 4; other++) {
                Checks.same("of queue " + other, other == queue ? 1000 : 0, x.total(RATE_OF_QUEUE_0 + other));
            }
            x.pass(999);
            Checks.same("a unit before", 1, x.total(RATE_OF_QUEUE_0 + queue));
            x.pass(1);
            Checks.same("it may", 0, x.total(RATE_OF_QUEUE_0 + queue));
            x.pass(2000);
            Checks.same("it may long since", 0, x.total(RATE_OF_QUEUE_0 + queue));
        }
    }

    static void totalOfUnitsToWaitWithALowerRate() {
        Checks.sentence("21: how many units a queue must wait for its rate");
        LeaseQueue x = Samples.withItems(5);
        x.limit(0, 20);
        for (int i = 0; i < 4; i++) {
            x.take(0, 0, 900);
            x.pass(2);
        }
        // Takes at 0, 2, 4, 6; TIME is 8.
        x.rate(0, 4, 10);
        Checks.same("the first must be out of it", 2, x.total(RATE_OF_QUEUE_0));
        x.rate(0, 3, 10);
        Checks.same("the second, too", 4, x.total(RATE_OF_QUEUE_0));
        x.rate(0, 1, 10);
        Checks.same("all four", 8, x.total(RATE_OF_QUEUE_0));
        x.rate(0, 1, 2);
        Checks.same("the last one is just out", 0, x.total(RATE_OF_QUEUE_0));
        x.rate(0, 1, 3);
        Checks.same("the last one is just in", 1, x.total(RATE_OF_QUEUE_0));
        x.rate(0, 5, 1000);
        Checks.same("five were not taken", 0, x.total(RATE_OF_QUEUE_0));
    }

    static void totalOfUnitsToWaitOfAnEmptyQueue() {
        Checks.sentence("21: 0 if it may");
        LeaseQueue x = Samples.withItems(1);
        x.rate(0, 1, 10);
        x.take(0, 0, 5);
        x.done(0, 1);
        Checks.same("the rate alone is asked for", 10, x.total(RATE_OF_QUEUE_0));
        x.rate(0, 0, 10);
        Checks.same("no rate", 0, x.total(RATE_OF_QUEUE_0));
    }

    static void totalRefusesWrongQuestions() {
        Checks.sentence("21: IllegalArgumentException: a number is not as it may be");
        Checks.onlyWithin("what", 0, 8, LeaseQueue::total);
    }

    // ---- terms: READY and THE ORDER

    static void readyWhenDueIsNotAboveTime() {
        Checks.sentence("READY is an open item whose due time is not above TIME");
        LeaseQueue x = new LeaseQueue();
        x.push(0, 5, 2, 0, 0);
        x.pass(1);
        Checks.same("a unit before", 0, x.count(0, READY));
        Checks.same("peek", NONE, x.peek(0, 0));
        Checks.same("takeAny", NONE, x.takeAny(0, 1));
        x.pass(1);
        Checks.same("due now", 1, x.count(0, READY));
        Checks.same("peek", 1, x.peek(0, 0));
        Checks.same("takeAny", 1, x.takeAny(0, 1));
    }

    static void readyWhenAllItWaitsForIsDone() {
        Checks.sentence("if all it waits for is done");
        LeaseQueue x = Samples.withItems(3);
        for (int item = 1; item <= 3; item++) {
            x.await(item);
        }
        Samples.pushPlain(x, 1);
        for (int item = 1; item <= 3; item++) {
            Checks.same("ready, one of them being open", 0, x.count(1, READY));
            x.take(0, 0, 5);
            Checks.same("ready, one of them being leased", 0, x.count(1, READY));
            Checks.same("take", NONE, x.take(1, 1, 5));
            x.done(0, item);
        }
        Checks.same("ready, all being done", 1, x.count(1, READY));
        Checks.same("take", 4, x.take(1, 1, 5));
    }

    static void readyNoMoreWhenACrashOpensWhatItWaitsFor() {
        Checks.sentence("if all it waits for is done");
        LeaseQueue x = Samples.withItems(1);
        x.await(1);
        Samples.pushPlain(x, 1);
        x.safe(false);
        x.take(0, 0, 5);
        x.done(0, 1);
        Checks.same("ready", 1, x.count(1, READY));
        x.crash();
        Checks.same("ready behind a crash", 0, x.count(1, READY));
        Checks.same("take", NONE, x.take(1, 0, 5));
    }

    static void orderByPriorityFirst() {
        Checks.sentence("THE ORDER is by priority");
        LeaseQueue x = new LeaseQueue();
        for (int priority = 9; priority >= 0; priority--) {
            x.push(0, priority, 9 - priority, 0, 0);
        }
        x.pass(9);
        for (int i = 0; i <= 9; i++) {
            Checks.same("peek(0, " + i + ")", 10 - i, x.peek(0, i));
        }
    }

    static void orderByDueTimeThen() {
        Checks.sentence("THE ORDER is by priority, then due time");
        LeaseQueue x = new LeaseQueue();
        x.push(0, 5, 2, 0, 0);
        x.push(0, 5, 1, 0, 0);
        x.push(0, 5, 0, 0, 0);
        x.pass(2);
        Checks.same("the earliest", 3, x.peek(0, 0));
        Checks.same("a unit later", 2, x.peek(0, 1));
        Checks.same("the latest", 1, x.peek(0, 2));
    }

    static void orderByNumberLast() {
        Checks.sentence("THE ORDER is by priority, then due time, then number.");
        LeaseQueue x = new LeaseQueue();
        x.push(0, 5, 1, 0, 0);
        x.pass(1);
        x.push(0, 5, 0, 0, 0);
        x.take(0, 0, 5);
        x.fail(0, 1, 0);
        x.push(0, 5, 0, 0, 0);
        for (int i = 0; i < 3; i++) {
            Checks.same("peek(0, " + i + ")", i + 1, x.peek(0, i));
        }
    }

    // ---- helpers

    private static void isAbout(LeaseQueue x, int... due) {
        for (int what = QUEUE; what <= WAITS; what++) {
            Checks.same("about(1, " + what + ") in state " + due[STATE], due[what], x.about(1, what));
        }
    }

    private static void hasCounts(LeaseQueue x, String what, int... due) {
        for (int state = OPEN; state <= READY; state++) {
            Checks.same(what + ", count(2, " + state + ")", due[state], x.count(2, state));
        }
    }
}
