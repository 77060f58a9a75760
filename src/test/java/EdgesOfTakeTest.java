/** Promises 4 and 5, take and takeAny: a test for each sentence that names a boundary case. */
public final class EdgesOfTakeTest implements Names {
    private EdgesOfTakeTest() {
    }

    public static void main(String[] args) {
        Checks.runAll(EdgesOfTakeTest.class);
    }

    // ---- promise 4

    static void takeLeasesTheFirstReadyItem() {
        Checks.sentence("4: The first ready item of a queue, by the order, is leased to a consumer");
        LeaseQueue x = new LeaseQueue();
        x.pass(3);
        x.push(0, 1, 0, 0, 0);
        x.push(0, 0, 1, 0, 0);
        x.push(1, 0, 0, 0, 0);
        Checks.same("the only ready one", 1, x.take(0, 7, 5));
        Checks.same("state", LEASED, x.about(1, STATE));
        Checks.same("consumer", 7, x.about(1, CONSUMER));
        Checks.same("until", 8, x.about(1, UNTIL));
        Checks.same("tries", 1, x.about(1, TRIES));
        Checks.same("due as it was", 3, x.about(1, DUE));
        Checks.same("another item's tries", 0, x.about(2, TRIES));
        Checks.same("none is left", NONE, x.take(0, 7, 5));
        x.pass(1);
        Checks.same("the other one, when it is due", 2, x.take(0, 7, 5));
    }

    static void takeOfAnEmptyQueue() {
        Checks.sentence("4: NONE if there is none");
        Checks.same("of a new object", NONE, new LeaseQueue().take(0, 0, 1));
        Checks.changesNothing("take of a new object", LeaseQueue::new, x -> x.take(3, 7, 1000));
        LeaseQueue x = Samples.withItems(2);
        Checks.same("items in another queue alone", NONE, x.take(1, 0, 1));
        Checks.changesNothing("take of an empty queue", () -> Samples.withItems(2), y -> y.take(1, 0, 1));
    }

    static void takeWithNothingReady() {
        Checks.sentence("4: NONE if there is none");
        Checks.same("none is ready", NONE, withNothingReady().take(0, 7, 5));
        Checks.changesNothing("take", EdgesOfTakeTest::withNothingReady, x -> x.take(0, 7, 5));
    }

    static void takeWithAsManyAsItMay() {
        Checks.sentence("4: NONE if .. the consumer has as many as it may");
        LeaseQueue x = Samples.withItems(5);
        Checks.same("the first", 1, x.take(0, 6, 9));
        Checks.same("the second", 2, x.take(0, 6, 9));
        Checks.same("the third", 3, x.take(0, 6, 9));
        Checks.same("the fourth", NONE, x.take(0, 6, 9));
        Checks.same("for another consumer", 4, x.take(0, 7, 9));
        Checks.changesNothing("take of a fourth", EdgesOfTakeTest::withThreeLeased, y -> y.take(0, 6, 9));
    }

    static void takeWhenALeaseIsOver() {
        Checks.sentence("4: NONE if .. the consumer has as many as it may");
        LeaseQueue x = withThreeLeased();
        Checks.isTrue("done", x.done(6, 1));
        Checks.same("behind done", 4, x.take(0, 6, 9));
        Checks.same("as many again", NONE, x.take(0, 6, 9));
        Checks.isTrue("fail", x.fail(6, 2, 500));
        Checks.same("behind fail", 5, x.take(0, 6, 9));
        Checks.same("as many again", NONE, x.take(0, 6, 9));
        x.pass(9);
        Checks.same("behind the end of leases", 3, x.take(0, 6, 9));
        x.crash();
        for (int i = 1; i <= 3; i++) {
            Checks.isTrue("behind a crash", x.take(0, 6, 9) != NONE);
        }
        Checks.same("as many again", NONE, x.take(0, 6, 9));
    }

    static void itemsOfAllQueuesCountToTheLimit() {
        Checks.sentence("4: the consumer has as many as it may");
        LeaseQueue x = new LeaseQueue();
        for (int queue = 0; queue < 4; queue++) {
            Samples.pushPlain(x, queue);
        }
        Checks.same("of queue 0", 1, x.take(0, 0, 9));
        Checks.same("of queue 1", 2, x.take(1, 0, 9));
        Checks.same("of queue 2", 3, x.take(2, 0, 9));
        Checks.same("of queue 3", NONE, x.take(3, 0, 9));
    }

    static void takeWithTheRateReached() {
        Checks.sentence("4: NONE if .. the rate is reached");
        LeaseQueue x = withRateReached();
        Checks.same("reached", NONE, x.take(0, 1, 9));
        x.pass(3);
        Checks.same("reached in the last unit", NONE, x.take(0, 1, 9));
        x.pass(1);
        Checks.same("let go", 3, x.take(0, 1, 9));
        Checks.changesNothing("take with the rate reached", EdgesOfTakeTest::withRateReached, y -> y.take(0, 1, 9));
    }

    static void takeOfNoneIsNoTake() {
        Checks.sentence("4: NONE if there is none, the consumer has as many as it may, or the rate is reached");
        LeaseQueue x = new LeaseQueue();
        x.rate(0, 1, 9);
        Checks.same("take of none", NONE, x.take(0, 0, 9));
        Checks.same("the rate is not reached by that", 0, x.total(RATE_OF_QUEUE_0));
        Samples.pushPlain(x, 0);
        x.limit(0, 0);
        Checks.same("take with limit 0", NONE, x.take(0, 0, 9));
        Checks.same("the rate is not reached by that", 0, x.total(RATE_OF_QUEUE_0));
        x.limit(0, 1);
        Checks.same("take", 1, x.take(0, 0, 9));
        Checks.same("records", 2, x.total(RECORDS));
    }

    static void takeForTheShortestLease() {
        Checks.sentence("4: leased to a consumer for so many units");
        LeaseQueue x = Samples.withItems(2);
        Checks.same("take for one unit", 1, x.take(0, 0, 1));
        Checks.same("until", 1, x.about(1, UNTIL));
        Checks.same("pass of no unit", 0, x.pass(0));
        Checks.same("state", LEASED, x.about(1, STATE));
        Checks.same("pass of one", 1, x.pass(1));
        Checks.same("state", OPEN, x.about(1, STATE));
    }

    static void takeForTheLongestLease() {
        Checks.sentence("4: leased to a consumer for so many units");
        LeaseQueue x = Samples.withItems(2);
        Checks.same("take for 1000 units", 1, x.take(0, 0, 1000));
        Checks.same("until", 1000, x.about(1, UNTIL));
        Checks.same("pass of 999", 0, x.pass(999));
        Checks.same("state", LEASED, x.about(1, STATE));
        Checks.same("pass of one", 1, x.pass(1));
        Checks.same("state", OPEN, x.about(1, STATE));
    }

    static void takeRefusesWrongLeases() {
        Checks.sentence("4: IllegalArgumentException: also if lease is not 1 .. 1000.");
        Checks.onlyWithin("lease", 1, 1000, (x, n) -> x.take(0, 0, n));
        Checks.refusedAndChangesNothing("lease 0, an item being ready", () -> Samples.withItems(1),
                x -> x.take(0, 0, 0));
        Checks.refusedAndChangesNothing("lease 1001, an item being ready", () -> Samples.withItems(1),
                x -> x.take(0, 0, 1001));
        Checks.refusedAndChangesNothing("lease 0, there being none", LeaseQueue::new, x -> x.take(0, 0, 0));
        Checks.refusedAndChangesNothing("lease 0 for a fourth", EdgesOfTakeTest::withThreeLeased, x -> x.take(0, 6, 0));
        Checks.refusedAndChangesNothing("lease 1001, the rate being reached", EdgesOfTakeTest::withRateReached,
                x -> x.take(0, 1, 1001));
    }

    static void takeRefusesWrongQueues() {
        Checks.sentence("4: IllegalArgumentException: there is no such queue");
        Checks.onlyWithin("queue", 0, 3, (x, n) -> x.take(n, 0, 1));
        LeaseQueue x = new LeaseQueue();
        Samples.pushPlain(x, 3);
        Samples.pushPlain(x, 0);
        Checks.same("the last queue", 1, x.take(3, 0, 1));
        Checks.same("the first queue", 2, x.take(0, 0, 1));
        Checks.refused("no such queue, as many as it may", () -> withThreeLeased().take(4, 6, 1));
    }

    static void takeRefusesWrongConsumers() {
        Checks.sentence("4: IllegalArgumentException: there is no such .. consumer");
        Checks.onlyWithin("consumer", 0, 7, (x, n) -> x.take(0, n, 1));
        LeaseQueue x = Samples.withItems(2);
        Checks.same("the first consumer", 1, x.take(0, 0, 1));
        Checks.same("the last consumer", 2, x.take(0, 7, 1));
        Checks.same("it is the first one's", 0, x.about(1, CONSUMER));
        Checks.same("it is the last one's", 7, x.about(2, CONSUMER));
        Checks.refused("no such consumer, no item", () -> new LeaseQueue().take(0, 8, 1));
    }

    // ---- promise 5

    static void takeAnyOfNoItems() {
        Checks.sentence("5: The same, of all queues");
        Checks.same("of a new object", NONE, new LeaseQueue().takeAny(0, 1));
        Checks.changesNothing("takeAny of a new object", LeaseQueue::new, x -> x.takeAny(7, 1000));
        Checks.same("with none ready", NONE, withNothingReady().takeAny(7, 5));
        Checks.changesNothing("takeAny with none ready", EdgesOfTakeTest::withNothingReady, x -> x.takeAny(7, 5));
    }

    static void takeAnyOfOneQueueAlone() {
        Checks.sentence("5: The same, of all queues");
        for (int queue = 0; queue < 4; queue++) {
            LeaseQueue x = new LeaseQueue();
            Samples.pushPlain(x, queue);
            x.pass(2);
            Checks.same("takeAny with queue " + queue + " alone", 1, x.takeAny(7, 5));
            Checks.same("state", LEASED, x.about(1, STATE));
            Checks.same("consumer", 7, x.about(1, CONSUMER));
            Checks.same("until", 7, x.about(1, UNTIL));
            Checks.same("tries", 1, x.about(1, TRIES));
            Checks.same("records", 2, x.total(RECORDS));
            Checks.same("none is left", NONE, x.takeAny(7, 5));
        }
    }

    static void takeAnyWithAsManyAsItMay() {
        Checks.sentence("5: The same, of all queues");
        LeaseQueue x = withThreeLeased();
        Samples.pushPlain(x, 3);
        Checks.same("a fourth", NONE, x.takeAny(6, 9));
        Checks.changesNothing("takeAny of a fourth", EdgesOfTakeTest::withThreeLeased, y -> y.takeAny(6, 9));
        x.done(6, 3);
        Checks.same("a third", 4, x.takeAny(6, 9));
        Checks.same("a fourth", NONE, x.takeAny(6, 9));
    }

    static void takeAnyByTheOrderOverTheQueues() {
        Checks.sentence("5: the first by the order");
        LeaseQueue x = new LeaseQueue();
        x.limit(0, 20);
        x.push(3, 4, 2, 0, 0);
        x.push(2, 4, 2, 0, 0);
        x.push(1, 4, 1, 0, 0);
        x.push(0, 5, 0, 0, 0);
        x.push(2, 3, 3, 0, 0);
        x.push(3, 0, 4, 0, 0);
        x.pass(3);
        Checks.same("by priority", 5, x.takeAny(0, 9));
        Checks.same("by due time", 3, x.takeAny(0, 9));
        Checks.same("by number, not by queue", 1, x.takeAny(0, 9));
        Checks.same("by number, not by queue", 2, x.takeAny(0, 9));
        Checks.same("by priority", 4, x.takeAny(0, 9));
        Checks.same("one that is not due", NONE, x.takeAny(0, 9));
    }

    static void takeAnyOfWhatTheRatesLetGo() {
        Checks.sentence("5: of those that each queue's rate lets go");
        LeaseQueue x = new LeaseQueue();
        for (int queue = 0; queue < 4; queue++) {
            x.push(queue, queue, 0, 0, 0);
            x.push(queue, queue, 0, 0, 0);
            x.rate(queue, 1, 10);
        }
        x.limit(0, 20);
        for (int queue = 0; queue < 4; queue++) {
            Checks.same("the first of queue " + queue, 2 * queue + 1, x.takeAny(0, 100));
            Checks.same("units to wait", 10, x.total(RATE_OF_QUEUE_0 + queue));
        }
        Checks.same("all rates are reached", NONE, x.takeAny(0, 100));
        x.pass(9);
        Checks.same("all rates are reached in the last unit", NONE, x.takeAny(0, 100));
        x.pass(1);
        Checks.same("all let go", 2, x.takeAny(0, 100));
        Checks.same("the rate of queue 0 is reached", 4, x.takeAny(0, 100));
    }

    static void takeAnyWithRatesReachedChangesNothing() {
        Checks.sentence("5: of those that each queue's rate lets go");
        Checks.same("takeAny", NONE, withRateReached().takeAny(1, 9));
        Checks.changesNothing("takeAny", EdgesOfTakeTest::withRateReached, x -> x.takeAny(1, 9));
        LeaseQueue x = withRateReached();
        x.push(3, 9, 0, 0, 0);
        Checks.same("the last of another queue goes first", 4, x.takeAny(1, 9));
    }

    static void takeAnyForTheShortestAndTheLongestLease() {
        Checks.sentence("5: The same, of all queues");
        LeaseQueue x = Samples.withItems(2);
        x.takeAny(0, 1);
        x.takeAny(0, 1000);
        Checks.same("until", 1, x.about(1, UNTIL));
        Checks.same("until", 1000, x.about(2, UNTIL));
        Checks.same("pass of one", 1, x.pass(1));
        Checks.same("pass of 998", 0, x.pass(998));
        Checks.same("pass of one", 1, x.pass(1));
    }

    static void takeAnyRefusesWrongConsumers() {
        Checks.sentence("5: IllegalArgumentException: there is no such .. consumer");
        Checks.onlyWithin("consumer", 0, 7, (x, n) -> x.takeAny(n, 1));
        LeaseQueue x = Samples.withItems(2);
        Checks.same("the first consumer", 1, x.takeAny(0, 1));
        Checks.same("the last consumer", 2, x.takeAny(7, 1));
        Checks.refused("no such consumer, no item", () -> new LeaseQueue().takeAny(8, 1));
    }

    static void takeAnyRefusesWrongLeases() {
        Checks.sentence("5: IllegalArgumentException: a number is not as it may be");
        Checks.onlyWithin("lease", 1, 1000, (x, n) -> x.takeAny(0, n));
        Checks.refusedAndChangesNothing("lease 0, an item being ready", () -> Samples.withItems(1),
                x -> x.takeAny(0, 0));
        Checks.refusedAndChangesNothing("lease 1001, an item being ready", () -> Samples.withItems(1),
                x -> x.takeAny(0, 1001));
        Checks.refusedAndChangesNothing("lease 0, there being none", LeaseQueue::new, x -> x.takeAny(0, 0));
        Checks.refusedAndChangesNothing("lease 1001 for a fourth", EdgesOfTakeTest::withThreeLeased,
                x -> x.takeAny(6, 1001));
    }

    /** Queue 0 has items that are leased, done, aside, not due, and waiting: none is ready. */
    private static LeaseQueue withNothingReady() {
        LeaseQueue x = new LeaseQueue();
        x.tries(0, 1);
        Samples.pushMany(x, 0, 3);
        x.push(0, 5, 1, 0, 0);
        x.await(4);
        x.push(0, 5, 0, 0, 0);
        for (int item = 1; item <= 3; item++) {
            x.take(0, 0, 9);
        }
        x.done(0, 1);
        x.fail(0, 2, 0);
        return x;
    }

    /** Five items in queue 0, of which consumer 6 has three. */
    private static LeaseQueue withThreeLeased() {
        LeaseQueue x = Samples.withItems(5);
        for (int i = 0; i < 3; i++) {
            x.take(0, 6, 9);
        }
        return x;
    }

    /** Queue 0 lets two items go in four units, and both were taken now; a third is ready. */
    private static LeaseQueue withRateReached() {
        LeaseQueue x = Samples.withItems(3);
        x.rate(0, 2, 4);
        x.take(0, 0, 500);
        x.take(0, 0, 500);
        return x;
    }
}
