import static java.lang.Integer.MAX_VALUE;
import static java.lang.Integer.MIN_VALUE;

/** Promises 1 to 3, a new object, push and await: a test for each sentence that names a boundary case. */
public final class EdgesOfPushTest implements Names {
    private EdgesOfPushTest() {
    }

    public static void main(String[] args) {
        Checks.runAll(EdgesOfPushTest.class);
    }

    // ---- promise 1

    static void newObjectHasNoItems() {
        Checks.sentence("1: No items");
        LeaseQueue x = new LeaseQueue();
        Checks.same("items", 0, x.total(ITEMS));
        for (int queue = 0; queue < 4; queue++) {
            for (int state = OPEN; state <= READY; state++) {
                Checks.same("count(" + queue + ", " + state + ")", 0, x.count(queue, state));
            }
        }
        Checks.refusedAndChangesNothing("about", LeaseQueue::new, y -> y.about(1, QUEUE));
        Checks.refusedAndChangesNothing("await", LeaseQueue::new, y -> y.await(1));
        Checks.refusedAndChangesNothing("done", LeaseQueue::new, y -> y.done(0, 1));
        Checks.refusedAndChangesNothing("fail", LeaseQueue::new, y -> y.fail(0, 1, 0));
        Checks.refusedAndChangesNothing("extend", LeaseQueue::new, y -> y.extend(0, 1, 1));
        Checks.same("the first number", 1, Samples.pushPlain(x, 0));
    }

    static void newObjectIsWrittenSo() {
        Checks.sentence("1: it is written so");
        LeaseQueue x = new LeaseQueue();
        Checks.same("crash at once", 0, x.crash());
        x.safe(false);
        Samples.pushMany(x, 0, 3);
        Checks.same("crash, nothing having been written", 0, x.crash());
        Checks.same("items", 0, x.total(ITEMS));
        Checks.same("records", 0, x.total(RECORDS));
        Checks.refused("about an item that is gone", () -> x.about(1, QUEUE));
        Checks.same("the first number again", 1, Samples.pushPlain(x, 0));
    }

    // ---- promise 2

    static void pushedItemIsDueFromNowOn() {
        Checks.sentence("2: due so many units from now on");
        LeaseQueue x = new LeaseQueue();
        x.pass(5);
        x.push(0, 5, 0, 0, 0);
        x.push(1, 5, 1, 0, 0);
        x.push(2, 5, 1000, 0, 0);
        Checks.same("due with delay 0", 5, x.about(1, DUE));
        Checks.same("due with delay 1", 6, x.about(2, DUE));
        Checks.same("due with delay 1000", 1005, x.about(3, DUE));
        Checks.same("take with delay 0", 1, x.take(0, 0, 1));
        Checks.same("take with delay 1, at once", NONE, x.take(1, 0, 1));
        x.pass(1);
        Checks.same("take with delay 1, one unit later", 2, x.take(1, 0, 1));
        x.pass(998);
        Checks.same("take with delay 1000, a unit before", NONE, x.take(2, 0, 1));
        x.pass(1);
        Checks.same("take with delay 1000", 3, x.take(2, 0, 1));
    }

    static void pushedItemWaitsForWhatWasToldSince() {
        Checks.sentence("2: waiting for what await() told since the latest push that made one");
        LeaseQueue x = Samples.withItems(4);
        Checks.same("told nothing", 0, x.about(4, WAITS));
        x.await(1);
        Samples.pushPlain(x, 1);
        Checks.same("told one", 1, x.about(5, WAITS));
        Samples.pushPlain(x, 1);
        Checks.same("told nothing since", 0, x.about(6, WAITS));
        x.await(1);
        x.await(2);
        x.await(3);
        Samples.pushPlain(x, 2);
        Checks.same("told three", 3, x.about(7, WAITS));
        Samples.pushPlain(x, 2);
        Checks.same("told nothing since", 0, x.about(8, WAITS));
        Checks.same("only the one that waits for none is ready", 8, x.take(2, 7, 1));
    }

    static void pushedItemMayWaitForWhatIsNotReady() {
        Checks.sentence("2: waiting for what await() told");
        LeaseQueue x = new LeaseQueue();
        x.tries(0, 1);
        x.push(0, 5, 0, 0, 0);
        x.push(0, 6, 0, 0, 0);
        x.take(0, 0, 9);
        x.take(0, 0, 9);
        x.done(0, 1);
        x.fail(0, 2, 0);
        Checks.same("await of a done item", 1, x.await(1));
        Checks.same("await of an item aside", 2, x.await(2));
        Checks.same("push", 3, Samples.pushPlain(x, 1));
        Checks.same("it waits for the one aside alone", 1, x.about(3, WAITS));
        Checks.same("it is not ready", NONE, x.take(1, 0, 1));
    }

    static void pushWithKeyZeroHasNone() {
        Checks.sentence("2: If its key is not 0");
        LeaseQueue x = new LeaseQueue();
        Checks.same("key 0", 1, x.push(0, 5, 0, 0, 0));
        Checks.same("key 0 again", 2, x.push(0, 5, 0, 0, 0));
        Checks.same("the least key", 3, x.push(0, 5, 0, 0, 1));
        Checks.same("the least key again", 3, x.push(0, 5, 0, 0, 1));
        Checks.same("the highest key", 4, x.push(0, 5, 0, 0, MAX_VALUE));
        Checks.same("the highest key again", 4, x.push(0, 5, 0, 0, MAX_VALUE));
        Checks.same("items", 4, x.total(ITEMS));
    }

    static void pushWithKeyOfItsQueueAlone() {
        Checks.sentence("2: an item of the queue that is not done has it");
        LeaseQueue x = new LeaseQueue();
        for (int queue = 0; queue < 4; queue++) {
            Checks.same("key 7 in queue " + queue, queue + 1, x.push(queue, 5, 0, 0, 7));
        }
        for (int queue = 0; queue < 4; queue++) {
            Checks.same("key 7 again in queue " + queue, queue + 1, x.push(queue, 5, 0, 0, 7));
        }
        Checks.same("the key below", 5, x.push(0, 5, 0, 0, 6));
        Checks.same("the key above", 6, x.push(0, 5, 0, 0, 8));
    }

    static void pushWithKeyOfEachState() {
        Checks.sentence("2: an item of the queue that is not done has it");
        LeaseQueue x = new LeaseQueue();
        x.tries(0, 1);
        x.push(0, 5, 3, 0, 7);
        Checks.same("key of an open item that is not due", 1, x.push(0, 5, 0, 0, 7));
        x.pass(3);
        Checks.same("key of a ready item", 1, x.push(0, 5, 0, 0, 7));
        x.take(0, 0, 5);
        Checks.same("key of a leased item", 1, x.push(0, 5, 0, 0, 7));
        x.pass(5);
        Checks.same("state", ASIDE, x.about(1, STATE));
        Checks.same("key of an item aside", 1, x.push(0, 5, 0, 0, 7));
        x.chance(0);
        x.take(0, 0, 5);
        x.done(0, 1);
        Checks.same("key of a done item", 2, x.push(0, 5, 0, 0, 7));
        Checks.same("then that one has it", 2, x.push(0, 5, 0, 0, 7));
    }

    static void pushWithKeyBehindACrash() {
        Checks.sentence("2: an item of the queue that is not done has it");
        LeaseQueue x = new LeaseQueue();
        x.push(0, 5, 0, 0, 7);
        x.safe(false);
        x.push(0, 5, 0, 0, 8);
        x.take(0, 0, 5);
        x.done(0, 1);
        Checks.same("key of a done item", 3, x.push(0, 5, 0, 0, 7));
        x.crash();
        Checks.same("it is not done any more", 1, x.push(0, 5, 0, 0, 7));
        Checks.same("key of an item that is gone", 2, x.push(0, 5, 0, 0, 8));
    }

    static void pushOfAKeyThatIsTherePushesNothing() {
        Checks.sentence("2: nothing is pushed (what await() told stays): that one's number");
        Checks.same("answer", 1, Samples.busy().push(0, 0, 1000, 99, 7));
        Checks.sameEffect("push of an older item", Samples::busy, x -> x.push(0, 0, 1000, 99, 7), LeaseQueue::write);
        LeaseQueue x = Samples.busy();
        x.push(0, 0, 0, 0, 7);
        Checks.same("what await() told stays", 3, x.await(2));
        Checks.same("push", 8, Samples.pushPlain(x, 2));
        Checks.same("it waits for what was told before and behind", 3, x.about(8, WAITS));
    }

    static void pushRefusesWrongQueues() {
        Checks.sentence("2: IllegalArgumentException: there is no such queue");
        Checks.onlyWithin("queue", 0, 3, (x, n) -> x.push(n, 5, 0, 0, 0));
        LeaseQueue x = new LeaseQueue();
        x.push(0, 5, 0, 0, 0);
        x.push(3, 5, 0, 0, 0);
        Checks.same("the first queue", 0, x.about(1, QUEUE));
        Checks.same("the last queue", 3, x.about(2, QUEUE));
    }

    static void pushRefusesWrongPriorities() {
        Checks.sentence("2: a PRIORITY 0 .. 9");
        Checks.onlyWithin("priority", 0, 9, (x, n) -> x.push(0, n, 0, 0, 0));
        LeaseQueue x = new LeaseQueue();
        x.push(0, 9, 0, 0, 0);
        x.push(0, 0, 0, 0, 0);
        Checks.same("the last priority", 9, x.about(1, PRIORITY));
        Checks.same("the first priority", 0, x.about(2, PRIORITY));
    }

    static void pushRefusesWrongDelays() {
        Checks.sentence("2: IllegalArgumentException: also if delay is not 0 .. 1000");
        Checks.onlyWithin("delay", 0, 1000, (x, n) -> x.push(0, 5, n, 0, 0));
        Checks.refusedAndChangesNothing("delay 1001 with a key that is there", Samples::busy,
                x -> x.push(0, 5, 1001, 0, 7));
    }

    static void pushRefusesWrongKeys() {
        Checks.sentence("2: IllegalArgumentException: also if .. key below 0");
        Checks.onlyWithin("key", 0, MAX_VALUE, (x, n) -> x.push(0, 5, 0, 0, n));
    }

    static void pushTakesAnyBody() {
        Checks.sentence("2: a body");
        LeaseQueue x = new LeaseQueue();
        int[] bodies = {MIN_VALUE, -1, 0, 1, MAX_VALUE};
        for (int i = 0; i < bodies.length; i++) {
            Checks.same("push", i + 1, x.push(0, 5, 0, bodies[i], 0));
            Checks.same("body", bodies[i], x.about(i + 1, BODY));
        }
    }

    static void fourHundredItemsAndNoMore() {
        Checks.sentence("2: UnsupportedOperationException: there are 400.");
        LeaseQueue x = Samples.withItems(399);
        Checks.same("items", 399, x.total(ITEMS));
        Checks.same("push of the last", 400, x.push(3, 9, 1000, -8, 5));
        Checks.same("items", 400, x.total(ITEMS));
        Checks.throwsException("push", UnsupportedOperationException.class, () -> Samples.pushPlain(x, 0));
        Checks.throwsException("push with a new key", UnsupportedOperationException.class,
                () -> x.push(2, 0, 0, 0, 6));
        Checks.throwsException("push with a key that is there", UnsupportedOperationException.class,
                () -> x.push(3, 9, 1000, -8, 5));
        int[] last = {3, 9, 1000, -8, 5, OPEN, NONE, NONE, 0, 0};
        for (int what = QUEUE; what <= WAITS; what++) {
            Checks.same("about(400, " + what + ")", last[what], x.about(400, what));
        }
    }

    static void pushAtFourHundredChangesNothing() {
        Checks.sentence("2: UnsupportedOperationException: there are 400.");
        LeaseQueue x = Samples.full();
        x.take(1, 0, 10);
        x.await(2);
        x.await(3);
        Checks.throwsException("push", UnsupportedOperationException.class, () -> Samples.pushPlain(x, 0));
        Checks.same("items", 400, x.total(ITEMS));
        Checks.same("records", 401, x.total(RECORDS));
        Checks.same("open", 399, x.count(0, OPEN));
        Checks.same("what await() told stays", 3, x.await(4));
        Checks.throwsException("push", UnsupportedOperationException.class, () -> Samples.pushPlain(x, 0));
        Checks.throwsException("what await() told stays", IllegalStateException.class, () -> x.await(5));
        x.crash();
        Checks.same("it was not written", 0, x.about(400, TRIES));
        Checks.same("records", 400, x.total(RECORDS));
    }

    static void doneItemsCountToTheFourHundred() {
        Checks.sentence("2: UnsupportedOperationException: there are 400.");
        LeaseQueue x = Samples.full();
        x.take(1, 0, 10);
        Checks.isTrue("done", x.done(0, 400));
        Checks.throwsException("push", UnsupportedOperationException.class, () -> Samples.pushPlain(x, 0));
        Checks.throwsException("push with the done item's key", UnsupportedOperationException.class,
                () -> x.push(1, 5, 0, 0, 49));
    }

    static void aCrashMayMakeRoomAgain() {
        Checks.sentence("2: UnsupportedOperationException: there are 400.");
        LeaseQueue x = Samples.withItems(399);
        x.safe(false);
        Checks.same("push", 400, Samples.pushPlain(x, 1));
        Checks.throwsException("push", UnsupportedOperationException.class, () -> Samples.pushPlain(x, 1));
        Checks.same("crash", 399, x.crash());
        Checks.same("push", 400, Samples.pushPlain(x, 2));
        Checks.throwsException("push", UnsupportedOperationException.class, () -> Samples.pushPlain(x, 2));
        Checks.same("queue", 2, x.about(400, QUEUE));
    }

    static void wrongNumbersComeBeforeTheFourHundred() {
        Checks.sentence("2: of several exceptions that fit the one named first is thrown");
        LeaseQueue x = Samples.full();
        Checks.refused("queue -1", () -> x.push(-1, 5, 0, 0, 0));
        Checks.refused("queue 4", () -> x.push(4, 5, 0, 0, 0));
        Checks.refused("priority -1", () -> x.push(0, -1, 0, 0, 0));
        Checks.refused("priority 10", () -> x.push(0, 10, 0, 0, 0));
        Checks.refused("delay -1", () -> x.push(0, 5, -1, 0, 0));
        Checks.refused("delay 1001", () -> x.push(0, 5, 1001, 0, 0));
        Checks.refused("key -1", () -> x.push(0, 5, 0, 0, -1));
        Checks.same("items", 400, x.total(ITEMS));
    }

    // ---- promise 3

    static void awaitAnswersHowMany() {
        Checks.sentence("3: how many it waits for");
        LeaseQueue x = Samples.withItems(4);
        Checks.same("the first item", 1, x.await(1));
        Checks.same("a second one", 2, x.await(3));
        Checks.same("the last item", 3, x.await(4));
        Samples.pushPlain(x, 1);
        Checks.same("behind a push", 1, x.await(5));
    }

    static void awaitOfOneToldAgainCountsOnce() {
        Checks.sentence("3: one that is told again counts once");
        LeaseQueue x = Samples.withItems(3);
        Checks.same("told", 1, x.await(2));
        Checks.same("told again", 1, x.await(2));
        Checks.same("another", 2, x.await(1));
        Checks.same("the first again", 2, x.await(2));
        Checks.same("the latest again", 2, x.await(1));
        Checks.same("a third", 3, x.await(3));
        for (int item = 1; item <= 3; item++) {
            Checks.same("each again, there being three", 3, x.await(item));
        }
        Samples.pushPlain(x, 1);
        Checks.same("it waits for three", 3, x.about(4, WAITS));
        for (int item = 1; item <= 3; item++) {
            x.take(0, 0, 5);
            x.done(0, item);
            Checks.same("it waits for what is left", 3 - item, x.about(4, WAITS));
        }
    }

    static void awaitOfAFourthIsRefused() {
        Checks.sentence("3: IllegalStateException: there would be four.");
        Checks.throwsAndChangesNothing("await", IllegalStateException.class, EdgesOfPushTest::withThreeTold,
                x -> x.await(5));
        LeaseQueue x = withThreeTold();
        Checks.throwsException("await", IllegalStateException.class, () -> x.await(5));
        Checks.throwsException("await again", IllegalStateException.class, () -> x.await(5));
        Checks.same("push", 6, Samples.pushPlain(x, 1));
        Checks.same("it waits for three", 3, x.about(6, WAITS));
        Checks.same("then there is room again", 1, x.await(5));
    }

    static void awaitOfAFourthThoughOneIsDone() {
        Checks.sentence("3: IllegalStateException: there would be four.");
        LeaseQueue x = withThreeTold();
        x.take(0, 0, 5);
        Checks.isTrue("done", x.done(0, 1));
        Checks.throwsException("await", IllegalStateException.class, () -> x.await(5));
        Samples.pushPlain(x, 1);
        Checks.same("it waits for two that are not done", 2, x.about(6, WAITS));
    }

    static void awaitRefusesItemsThatAreNotThere() {
        Checks.sentence("3: IllegalArgumentException: there is no such .. item");
        Checks.onlyWithin("item", 1, 7, LeaseQueue::await);
        LeaseQueue x = Samples.withItems(1);
        x.safe(false);
        Samples.pushPlain(x, 0);
        Checks.same("an item that is not written", 1, x.await(2));
        x.crash();
        Checks.refused("an item that is gone", () -> x.await(2));
        Checks.same("the last that is there", 1, x.await(1));
    }

    static void awaitRefusesMissingItemsBeforeAFourth() {
        Checks.sentence("3: of several exceptions that fit the one named first is thrown");
        for (int item : new int[] {0, 6, -1, MIN_VALUE, MAX_VALUE}) {
            Checks.refusedAndChangesNothing("await(" + item + ") of a fourth", EdgesOfPushTest::withThreeTold,
                    x -> x.await(item));
        }
    }

    static void aCrashForgetsWhatWasTold() {
        Checks.sentence("3: (A crash forgets them.)");
        LeaseQueue x = withThreeTold();
        x.crash();
        Checks.same("one that was told", 1, x.await(2));
        Checks.same("one that was not", 2, x.await(5));
        Checks.same("a third", 3, x.await(3));
        x.crash();
        Samples.pushPlain(x, 1);
        Checks.same("push behind a crash", 0, x.about(6, WAITS));
        Checks.same("it is ready", 6, x.take(1, 0, 1));
    }

    static void writingDoesNotKeepWhatWasTold() {
        Checks.sentence("3: (A crash forgets them.)");
        LeaseQueue x = withThreeTold();
        x.write();
        x.crash();
        Samples.pushPlain(x, 1);
        Checks.same("push behind write() and crash", 0, x.about(6, WAITS));
    }

    static void theLastItemMayWaitForThreeOthers() {
        Checks.sentence("3: The next item that is pushed waits for this one, too");
        LeaseQueue x = Samples.withItems(399);
        x.await(1);
        x.await(398);
        x.await(399);
        Checks.same("push", 400, Samples.pushPlain(x, 1));
        Checks.same("it waits for three", 3, x.about(400, WAITS));
        Checks.same("await of the last item", 1, x.await(400));
        Checks.refused("await of the one behind it", () -> x.await(401));
    }

    private static LeaseQueue withThreeTold() {
        LeaseQueue x = Samples.withItems(5);
        x.await(1);
        x.await(2);
        x.await(4);
        return x;
    }
}
