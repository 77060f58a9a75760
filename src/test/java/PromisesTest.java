import static java.lang.Integer.MAX_VALUE;
import static java.lang.Integer.MIN_VALUE;

import java.util.List;
import java.util.stream.Collectors;

/** Each promise of the document by itself, in ordinary use; its boundary cases are in the EdgesOf.. tests. */
public final class PromisesTest implements Names {
    private PromisesTest() {
    }

    public static void main(String[] args) {
        Checks.runTests(PromisesTest.class);
        List<String> promises = Document.headings().stream().filter(heading -> heading.startsWith("Promise "))
                .collect(Collectors.toList());
        Checks.allWasQuoted("Promises", String.join(" ", promises));
        Checks.same("promises", 21, promises.size());
        Checks.end();
    }

    /** One item in queue 0, tried once by consumer 0 and put aside. */
    private static LeaseQueue withOneAside() {
        LeaseQueue x = new LeaseQueue();
        x.tries(0, 1);
        x.push(0, 5, 2, 0, 0);
        x.pass(3);
        x.take(0, 0, 10);
        x.fail(0, 1, 7);
        return x;
    }

    private static void doneAtOnce(LeaseQueue x, int queue, int item) {
        Checks.same("take of item " + item, item, x.take(queue, 7, 1000));
        Checks.isTrue("done of item " + item, x.done(7, item));
    }

    static void newObject() {
        Checks.sentence("Promise 1: A new object");
        LeaseQueue x = new LeaseQueue();
        Checks.same("NONE", -1, NONE);
        for (int what = 0; what <= 8; what++) {
            Checks.same("total(" + what + ") of a new object", 0, x.total(what));
        }
        for (int queue = 0; queue < 4; queue++) {
            for (int state = OPEN; state <= READY; state++) {
                Checks.same("count of a new object", 0, x.count(queue, state));
            }
            Checks.same("peek of a new object", NONE, x.peek(queue, 0));
            Checks.same("next of a new object", NONE, x.next(queue));
            Checks.same("take of a new object", NONE, x.take(queue, 0, 1));
        }
        Checks.refused("about item 1 of a new object", () -> x.about(1, 0));
        Checks.same("crash of a new object", 0, x.crash());

        LeaseQueue y = new LeaseQueue();
        y.safe(false);
        Samples.pushPlain(y, 0);
        Checks.same("crash with nothing written behind the making", 0, y.crash());
        Checks.same("records then", 0, y.total(RECORDS));
        Checks.same("the next number then", 1, Samples.pushPlain(y, 0));
    }

    static void pushAnswersAndKeeps() {
        Checks.sentence("Promise 2: push");
        LeaseQueue x = new LeaseQueue();
        x.pass(100);
        Checks.same("first push", 1, x.push(0, 0, 0, MIN_VALUE, 0));
        Checks.same("second push", 2, x.push(3, 9, 1000, MAX_VALUE, MAX_VALUE));
        Checks.same("due at once", 100, x.about(1, DUE));
        Checks.same("due later", 1100, x.about(2, DUE));
        Checks.same("body", MIN_VALUE, x.about(1, BODY));
        Checks.same("body", MAX_VALUE, x.about(2, BODY));
        Checks.same("key", MAX_VALUE, x.about(2, KEY));
        Checks.same("state", OPEN, x.about(2, STATE));
        Checks.same("tries", 0, x.about(2, TRIES));
        Checks.same("items", 2, x.total(ITEMS));
    }

    static void pushWithAKey() {
        Checks.sentence("Promise 2: push");
        LeaseQueue x = new LeaseQueue();
        x.push(0, 5, 0, 1, 7);
        x.await(1);
        Checks.same("push with a key that is there", 1, x.push(0, 0, 9, 2, 7));
        Checks.same("body stays", 1, x.about(1, BODY));
        Checks.same("priority stays", 5, x.about(1, PRIORITY));
        Checks.same("due stays", 0, x.about(1, DUE));
        Checks.same("no record of it", 1, x.total(RECORDS));
        Checks.same("the same key in another queue", 2, x.push(1, 5, 0, 1, 7));
        Checks.same("what await told stood until then", 1, x.about(2, WAITS));
        Checks.same("another key", 3, x.push(0, 5, 0, 1, 8));
        Checks.same("what await told is used once", 0, x.about(3, WAITS));
        Checks.same("no key", 4, x.push(0, 5, 0, 1, 0));
        Checks.same("no key again", 5, x.push(0, 5, 0, 1, 0));
        x.take(0, 0, 5);
        Checks.same("key of a leased item", 1, x.push(0, 5, 0, 1, 7));
        x.done(0, 1);
        Checks.same("key of a done item", 6, x.push(0, 5, 0, 1, 7));

        LeaseQueue y = new LeaseQueue();
        y.tries(0, 1);
        y.push(0, 5, 0, 1, 7);
        y.take(0, 0, 5);
        y.fail(0, 1, 0);
        Checks.same("aside", ASIDE, y.about(1, STATE));
        Checks.same("key of an item that is aside", 1, y.push(0, 5, 0, 1, 7));
    }

    static void awaitTells() {
        Checks.sentence("Promise 3: await");
        LeaseQueue x = new LeaseQueue();
        Samples.pushMany(x, 0, 4);
        Checks.same("await of one", 1, x.await(2));
        Checks.same("await of it again", 1, x.await(2));
        Checks.same("await of two", 2, x.await(1));
        Checks.same("await of three", 3, x.await(4));
        Checks.throwsException("await of four", IllegalStateException.class, () -> x.await(3));
        Checks.same("await of the third again", 3, x.await(4));
        Checks.same("await of the first again", 3, x.await(2));
        Checks.same("push behind them", 5, Samples.pushPlain(x, 1));
        Checks.same("it waits for three", 3, x.about(5, WAITS));
        Checks.same("await starts anew", 1, x.await(3));
        doneAtOnce(x, 0, 1);
        Checks.same("it waits for two", 2, x.about(5, WAITS));
        Checks.same("a done item counts in await", 2, x.await(1));
        Checks.same("push behind it", 6, Samples.pushPlain(x, 1));
        Checks.same("it is not waited for", 1, x.about(6, WAITS));
    }

    static void awaitIsForgotten() {
        Checks.sentence("Promise 3: await");
        LeaseQueue x = new LeaseQueue();
        Samples.pushMany(x, 0, 3);
        x.await(1);
        x.await(2);
        x.crash();
        Checks.same("await behind a crash", 1, x.await(3));
        x.crash();
        Checks.same("push behind a crash", 4, Samples.pushPlain(x, 0));
        Checks.same("it waits for none", 0, x.about(4, WAITS));
        x.await(1);
        x.crash();
        Checks.same("push behind a crash", 5, Samples.pushPlain(x, 1));
        Checks.same("it is ready", 5, x.take(1, 0, 1));
        x.await(1);
        Checks.refused("a push that throws", () -> x.push(9, 0, 0, 0, 0));
        Checks.same("push", 6, Samples.pushPlain(x, 0));
        Checks.same("what await told stood", 1, x.about(6, WAITS));
    }

    static void takeByTheOrder() {
        Checks.sentence("Promise 4: take");
        LeaseQueue x = new LeaseQueue();
        x.limit(0, 20);
        x.push(0, 9, 0, 0, 0);
        x.push(0, 2, 5, 0, 0);
        x.push(0, 2, 1, 0, 0);
        x.push(0, 2, 1, 0, 0);
        x.push(0, 1, 7, 0, 0);
        x.push(1, 0, 0, 0, 0);
        x.pass(10);
        Checks.same("by priority", 5, x.take(0, 0, 100));
        Checks.same("by due time", 3, x.take(0, 0, 100));
        Checks.same("by number", 4, x.take(0, 0, 100));
        Checks.same("the later due", 2, x.take(0, 0, 100));
        Checks.same("the last priority", 1, x.take(0, 0, 100));
        Checks.same("none is left in the queue", NONE, x.take(0, 0, 100));
        Checks.same("state", LEASED, x.about(5, STATE));
        Checks.same("consumer", 0, x.about(5, CONSUMER));
        Checks.same("until", 110, x.about(5, UNTIL));
        Checks.same("tries", 1, x.about(5, TRIES));
        Checks.same("due", 7, x.about(5, DUE));
        Checks.same("the other queue's", 6, x.take(1, 7, 1));
    }

    static void takeWaitsForDueAndDone() {
        Checks.sentence("Promise 4: take");
        LeaseQueue x = new LeaseQueue();
        x.push(0, 5, 3, 0, 0);
        x.await(1);
        x.push(1, 5, 0, 0, 0);
        x.pass(2);
        Checks.same("before it is due", NONE, x.take(0, 0, 1));
        x.pass(1);
        Checks.same("when it is due", 1, x.take(0, 0, 10));
        Checks.same("what waits for a leased one", NONE, x.take(1, 1, 1));
        x.done(0, 1);
        Checks.same("what waits for a done one", 2, x.take(1, 1, 1));
    }

    static void takeWithinLimit() {
        Checks.sentence("Promise 4: take");
        LeaseQueue x = new LeaseQueue();
        Samples.pushMany(x, 0, 5);
        Checks.same("one", 1, x.take(0, 4, 10));
        Checks.same("two", 2, x.take(0, 4, 10));
        Checks.same("three", 3, x.take(0, 4, 10));
        Checks.same("more than it may", NONE, x.take(0, 4, 10));
        Checks.same("more than it may of all", NONE, x.takeAny(4, 10));
        Checks.same("another consumer", 4, x.take(0, 5, 10));
        x.done(4, 2);
        Checks.same("one less", 5, x.take(0, 4, 10));

        LeaseQueue y = new LeaseQueue();
        y.limit(0, 1);
        y.push(0, 5, 0, 0, 0);
        y.push(0, 1, 0, 0, 0);
        Checks.same("the newest item", 2, y.take(0, 0, 10));
        Checks.same("it counts", NONE, y.take(0, 0, 10));
    }

    static void takeWithinRate() {
        Checks.sentence("Promise 4: take");
        LeaseQueue x = new LeaseQueue();
        Samples.pushMany(x, 0, 3);
        x.rate(0, 1, 4);
        Checks.same("first", 1, x.take(0, 0, 100));
        Checks.same("reached", NONE, x.take(0, 1, 100));
        x.pass(3);
        Checks.same("still reached", NONE, x.take(0, 1, 100));
        x.pass(1);
        Checks.same("let go", 2, x.take(0, 1, 100));
        Checks.same("no take, no record", 5, x.total(RECORDS));
    }

    static void takeAnyOfAllQueues() {
        Checks.sentence("Promise 5: takeAny");
        LeaseQueue x = new LeaseQueue();
        x.limit(0, 20);
        x.push(3, 4, 0, 0, 0);
        x.push(0, 4, 0, 0, 0);
        x.push(1, 3, 2, 0, 0);
        x.push(2, 3, 1, 0, 0);
        x.push(2, 9, 0, 0, 0);
        Checks.same("by number over the queues", 1, x.takeAny(0, 50));
        x.pass(2);
        Checks.same("by due time over the queues", 4, x.takeAny(0, 50));
        Checks.same("by priority over the queues", 3, x.takeAny(0, 50));
        x.rate(0, 1, 5);
        x.rate(2, 1, 5);
        Checks.same("rate of queue 2 is reached, of queue 0 not", 2, x.takeAny(0, 50));
        Checks.same("all that is left is held by a rate", NONE, x.takeAny(0, 50));
        x.pass(5);
        Checks.same("the rate lets it go", 5, x.takeAny(0, 50));
        Checks.same("its queue's rate is told of it", 5, x.total(RATE_OF_QUEUE_0 + 2));
        Checks.same("until", 57, x.about(5, UNTIL));
        Checks.same("tries", 1, x.about(5, TRIES));
    }

    static void doneOfWhatIsLeased() {
        Checks.sentence("Promise 6: done");
        LeaseQueue x = new LeaseQueue();
        x.push(0, 5, 1, 0, 0);
        x.pass(4);
        Checks.isFalse("done of an open item", x.done(0, 1));
        x.take(0, 0, 10);
        Checks.isFalse("done by another consumer", x.done(1, 1));
        Checks.same("state", LEASED, x.about(1, STATE));
        Checks.isTrue("done", x.done(0, 1));
        Checks.same("state", DONE, x.about(1, STATE));
        Checks.same("consumer", NONE, x.about(1, CONSUMER));
        Checks.same("until", NONE, x.about(1, UNTIL));
        Checks.same("tries", 1, x.about(1, TRIES));
        Checks.same("due", 1, x.about(1, DUE));
        Checks.isFalse("done again", x.done(0, 1));
        Samples.pushPlain(x, 0);
        x.take(0, 0, 2);
        x.pass(2);
        Checks.isFalse("done behind the lease", x.done(0, 2));
    }

    static void failGivesBack() {
        Checks.sentence("Promise 7: fail");
        LeaseQueue x = new LeaseQueue();
        Samples.pushPlain(x, 0);
        Checks.isFalse("fail of an open item", x.fail(0, 1, 5));
        Checks.same("due", 0, x.about(1, DUE));
        x.take(0, 0, 10);
        x.pass(3);
        Checks.isFalse("fail by another consumer", x.fail(1, 1, 5));
        Checks.isTrue("fail", x.fail(0, 1, 5));
        Checks.same("state", OPEN, x.about(1, STATE));
        Checks.same("due", 8, x.about(1, DUE));
        Checks.same("consumer", NONE, x.about(1, CONSUMER));
        Checks.same("until", NONE, x.about(1, UNTIL));
        Checks.same("tries", 1, x.about(1, TRIES));
        Checks.isFalse("fail again", x.fail(0, 1, 5));
        Checks.same("before it is due again", NONE, x.take(0, 0, 10));
        x.pass(5);
        Checks.same("when it is due again", 1, x.take(0, 0, 10));
        Checks.isTrue("fail with no delay", x.fail(0, 1, 0));
        Checks.same("due now", 8, x.about(1, DUE));
        Checks.same("tries", 2, x.about(1, TRIES));
    }

    static void failPutsAside() {
        Checks.sentence("Promise 7: fail");
        LeaseQueue x = new LeaseQueue();
        x.push(0, 5, 2, 0, 0);
        x.pass(2);
        for (int i = 1; i <= 3; i++) {
            Checks.same("state", OPEN, x.about(1, STATE));
            x.take(0, 0, 10);
            Checks.same("tries", i, x.about(1, TRIES));
            Checks.isTrue("fail", x.fail(0, 1, i < 3 ? 0 : 9));
        }
        Checks.same("state", ASIDE, x.about(1, STATE));
        Checks.same("due as it was", 2, x.about(1, DUE));
        Checks.same("tries", 3, x.about(1, TRIES));
        Checks.same("consumer", NONE, x.about(1, CONSUMER));
        Checks.same("until", NONE, x.about(1, UNTIL));
        Checks.same("what is aside is not taken", NONE, x.take(0, 0, 10));
        Checks.isFalse("fail of what is aside", x.fail(0, 1, 0));
        Checks.isFalse("done of what is aside", x.done(0, 1));
    }

    static void extendLeases() {
        Checks.sentence("Promise 8: extend");
        LeaseQueue x = new LeaseQueue();
        Samples.pushPlain(x, 0);
        Checks.isFalse("extend of an open item", x.extend(0, 1, 5));
        x.take(0, 0, 4);
        x.pass(3);
        Checks.isFalse("extend by another consumer", x.extend(1, 1, 5));
        Checks.same("until", 4, x.about(1, UNTIL));
        Checks.isTrue("extend", x.extend(0, 1, 5));
        Checks.same("until", 8, x.about(1, UNTIL));
        Checks.same("tries", 1, x.about(1, TRIES));
        Checks.same("no record of it", 2, x.total(RECORDS));
        Checks.same("the lease goes on", 0, x.pass(4));
        Checks.isTrue("extend may shorten", x.extend(0, 1, 1));
        Checks.same("until", 8, x.about(1, UNTIL));
        Checks.isTrue("the longest", x.extend(0, 1, 1000));
        Checks.same("until", 1007, x.about(1, UNTIL));
        Checks.isTrue("the shortest", x.extend(0, 1, 1));
        Checks.same("the lease ends", 1, x.pass(1));
        Checks.isFalse("extend behind the lease", x.extend(0, 1, 5));
        Checks.same("until", NONE, x.about(1, UNTIL));
    }

    static void chanceForWhatIsAside() {
        Checks.sentence("Promise 9: chance");
        LeaseQueue x = withOneAside();
        Checks.same("chance of another queue", 0, x.chance(1));
        Checks.same("state", ASIDE, x.about(1, STATE));
        x.pass(4);
        Checks.same("records", 3, x.total(RECORDS));
        Checks.same("chance", 1, x.chance(0));
        Checks.same("records", 4, x.total(RECORDS));
        Checks.same("state", OPEN, x.about(1, STATE));
        Checks.same("due now", 7, x.about(1, DUE));
        Checks.same("no tries", 0, x.about(1, TRIES));
        Checks.same("chance with none aside", 0, x.chance(0));
        Checks.same("records", 4, x.total(RECORDS));
        Checks.same("it is ready", 1, x.take(0, 0, 1));

        LeaseQueue y = new LeaseQueue();
        y.tries(2, 1);
        Samples.pushMany(y, 2, 4);
        y.take(2, 0, 1);
        y.take(2, 0, 1);
        y.take(2, 1, 9);
        y.pass(1);
        Checks.same("chance of two", 2, y.chance(2));
        Checks.same("leased stays", LEASED, y.about(3, STATE));
        Checks.same("a record for each", 4 + 3 + 2 + 2, y.total(RECORDS));
    }

    static void passEndsLeases() {
        Checks.sentence("Promise 10: pass");
        LeaseQueue x = new LeaseQueue();
        x.push(0, 5, 1, 0, 0);
        x.push(1, 5, 0, 0, 0);
        x.tries(1, 1);
        Checks.same("pass of none", 0, x.pass(0));
        Checks.same("time", 0, x.total(TIME));
        Checks.same("pass", 0, x.pass(2));
        x.take(0, 0, 3);
        x.take(1, 1, 3);
        Checks.same("before it ends", 0, x.pass(2));
        Checks.same("state", LEASED, x.about(1, STATE));
        Checks.same("when it ends", 2, x.pass(1));
        Checks.same("time", 5, x.total(TIME));
        Checks.same("state", OPEN, x.about(1, STATE));
        Checks.same("due as it was", 1, x.about(1, DUE));
        Checks.same("consumer", NONE, x.about(1, CONSUMER));
        Checks.same("until", NONE, x.about(1, UNTIL));
        Checks.same("tries", 1, x.about(1, TRIES));
        Checks.same("aside by its queue's tries", ASIDE, x.about(2, STATE));
        Checks.same("due as it was", 0, x.about(2, DUE));
        Checks.same("until", NONE, x.about(2, UNTIL));
        Checks.same("a record for each", 6, x.total(RECORDS));
        Checks.same("nothing ends again", 0, x.pass(1));
        Checks.same("its consumer may take again", 1, x.take(0, 0, 1));
        Checks.same("far behind the end", 1, x.pass(2000));
        Checks.same("time", 2006, x.total(TIME));
    }

    static void writeAndCrash() {
        Checks.sentence("Promise 12: crash");
        LeaseQueue x = new LeaseQueue();
        x.safe(false);
        Checks.same("write of nothing", 0, x.write());
        x.push(0, 5, 0, 11, 3);
        x.push(1, 4, 0, 12, 0);
        x.await(1);
        x.push(1, 3, 6, 13, 0);
        Checks.same("write", 3, x.write());
        x.take(0, 0, 10);
        x.done(0, 1);
        x.take(1, 0, 10);
        x.fail(0, 2, 30);
        x.push(2, 0, 0, 14, 0);
        x.pass(1);
        Checks.same("records", 8, x.total(RECORDS));
        Checks.same("crash", 3, x.crash());
        Checks.same("items", 3, x.total(ITEMS));
        Checks.same("records", 3, x.total(RECORDS));
        Checks.same("crashes", 1, x.total(CRASHES));
        Checks.same("done is forgotten", OPEN, x.about(1, STATE));
        Checks.same("tries are forgotten", 0, x.about(1, TRIES));
        Checks.same("due is brought back", 0, x.about(2, DUE));
        Checks.same("tries are forgotten", 0, x.about(2, TRIES));
        Checks.same("what it waits for is not done any more", 1, x.about(3, WAITS));
        Checks.same("body", 13, x.about(3, BODY));
        Checks.same("priority", 3, x.about(3, PRIORITY));
        Checks.same("key", 3, x.about(1, KEY));
        Checks.same("due", 6, x.about(3, DUE));
        Checks.refused("about an item that is gone", () -> x.about(4, 0));
        Checks.same("a key that is there again", 1, x.push(0, 5, 0, 0, 3));
        Checks.same("crash again", 3, x.crash());
        Checks.same("crashes", 2, x.total(CRASHES));
        doneAtOnce(x, 0, 1);
        Checks.same("write", 5, x.write());
        x.crash();
        Checks.same("done is written", DONE, x.about(1, STATE));
        Checks.same("tries are written", 1, x.about(1, TRIES));
        Checks.same("records", 5, x.total(RECORDS));
        Checks.same("what it waits for is done", 0, x.about(3, WAITS));
    }

    static void crashOpensLeases() {
        Checks.sentence("Promise 12: crash");
        LeaseQueue x = new LeaseQueue();
        x.tries(0, 1);
        x.push(0, 5, 2, 0, 0);
        x.pass(5);
        x.take(0, 6, 10);
        x.write();
        x.crash();
        Checks.same("state", OPEN, x.about(1, STATE));
        Checks.same("consumer", NONE, x.about(1, CONSUMER));
        Checks.same("until", NONE, x.about(1, UNTIL));
        Checks.same("tries as written", 1, x.about(1, TRIES));
        Checks.same("due as written", 2, x.about(1, DUE));
        Checks.same("records as written", 2, x.total(RECORDS));
        Checks.isFalse("its lease is gone", x.done(6, 1));
        Checks.same("it is taken again", 1, x.take(0, 5, 3));
        Checks.same("tries go on", 2, x.about(1, TRIES));
        Checks.same("it ends", 1, x.pass(3));
        Checks.same("more tries than its queue's", ASIDE, x.about(1, STATE));
        x.crash();
        Checks.same("aside is written", ASIDE, x.about(1, STATE));

        LeaseQueue y = new LeaseQueue();
        y.tries(1, 1);
        Samples.pushPlain(y, 1);
        y.take(1, 0, 9);
        y.crash();
        Checks.same("a take is not written by itself", 0, y.about(1, TRIES));
        Checks.same("nor is its record", 1, y.total(RECORDS));
        Checks.same("the consumer has none", 1, y.take(1, 0, 9));
    }

    static void crashKeepsTheRest() {
        Checks.sentence("Promise 12: crash");
        LeaseQueue x = new LeaseQueue();
        x.safe(false);
        Samples.pushMany(x, 0, 3);
        x.write();
        x.pass(9);
        x.limit(0, 1);
        x.tries(0, 7);
        x.rate(0, 1, 6);
        x.take(0, 0, 5);
        x.crash();
        Checks.same("time stays", 9, x.total(TIME));
        Checks.same("what was taken when stays", 6, x.total(RATE_OF_QUEUE_0));
        Checks.same("the rate holds", NONE, x.take(0, 0, 5));
        x.pass(6);
        Checks.same("the rate lets go", 1, x.take(0, 0, 5));
        Checks.same("limit stays", 1, x.limit(0, 2));
        Checks.same("tries of the queue stay", 7, x.tries(0, 2));
        Checks.isFalse("safe stays off", x.safe(true));
        x.crash();
        Checks.isTrue("safe stays on", x.safe(true));
    }

    static void crashGivesNumbersAgain() {
        Checks.sentence("Promise 12: crash");
        LeaseQueue x = new LeaseQueue();
        Samples.pushPlain(x, 0);
        x.safe(false);
        x.await(1);
        x.push(1, 1, 4, 21, 9);
        x.pass(4);
        x.take(0, 0, 50);
        x.done(0, 1);
        x.take(1, 0, 50);
        x.done(0, 2);
        x.crash();
        Checks.same("the number again", 2, x.push(2, 8, 0, 22, 0));
        Checks.same("queue", 2, x.about(2, 0));
        Checks.same("priority", 8, x.about(2, PRIORITY));
        Checks.same("due", 4, x.about(2, DUE));
        Checks.same("body", 22, x.about(2, BODY));
        Checks.same("key", 0, x.about(2, KEY));
        Checks.same("state", OPEN, x.about(2, STATE));
        Checks.same("tries", 0, x.about(2, TRIES));
        Checks.same("waits for none", 0, x.about(2, WAITS));
    }

    static void safeWritesBehindCalls() {
        Checks.sentence("Promise 13: safe");
        LeaseQueue x = new LeaseQueue();
        Checks.isTrue("safe at first", x.safe(true));
        Samples.pushPlain(x, 0);
        Checks.same("push is written", 1, x.crash());
        x.take(0, 0, 9);
        Checks.isTrue("done", x.done(0, 1));
        x.crash();
        Checks.same("done is written", DONE, x.about(1, STATE));
        Samples.pushPlain(x, 0);
        x.take(0, 0, 9);
        Checks.isTrue("fail", x.fail(0, 2, 5));
        x.crash();
        Checks.same("fail is written", 5, x.about(2, DUE));
        x.pass(5);
        x.take(0, 0, 2);
        Checks.same("pass", 1, x.pass(2));
        x.crash();
        Checks.same("what comes back is written", 2, x.about(2, TRIES));
        x.take(0, 0, 9);
        x.fail(0, 2, 0);
        x.crash();
        Checks.same("aside is written", ASIDE, x.about(2, STATE));
        x.chance(0);
        x.crash();
        Checks.same("chance is written", OPEN, x.about(2, STATE));
        Checks.same("chance is written", 7, x.about(2, DUE));

        x.take(0, 0, 9);
        Checks.isFalse("done that answers false", x.done(1, 2));
        x.crash();
        Checks.same("it is written, too", 1, x.about(2, TRIES));
        x.take(0, 0, 9);
        Checks.isFalse("fail that answers false", x.fail(1, 2, 0));
        x.crash();
        Checks.same("it is written, too", 2, x.about(2, TRIES));
        x.tries(0, 9);
        x.take(0, 0, 9);
        Checks.same("chance that answers 0", 0, x.chance(1));
        x.crash();
        Checks.same("it is written, too", 3, x.about(2, TRIES));
        x.push(1, 0, 0, 0, 4);
        x.take(0, 0, 9);
        Checks.same("push that answers an older item", 3, x.push(1, 0, 0, 0, 4));
        x.crash();
        Checks.same("it is written, too", 4, x.about(2, TRIES));

        x.take(0, 0, 9);
        Checks.same("pass by which nothing comes back", 0, x.pass(1));
        Checks.isTrue("extend", x.extend(0, 2, 5));
        Checks.refused("done that throws", () -> x.done(8, 2));
        Checks.isTrue("safe on again", x.safe(true));
        x.crash();
        Checks.same("these are not written", 4, x.about(2, TRIES));

        Checks.isTrue("safe off", x.safe(false));
        Checks.isFalse("safe off again", x.safe(false));
        x.take(0, 0, 9);
        x.done(0, 2);
        x.chance(0);
        Samples.pushPlain(x, 0);
        x.take(1, 0, 1);
        Checks.same("pass", 1, x.pass(1));
        Checks.same("nothing of these is written", 3, x.crash());
        Checks.same("state", OPEN, x.about(2, STATE));
        Checks.same("tries", 4, x.about(2, TRIES));
        Checks.same("tries", 0, x.about(3, TRIES));
    }

    static void logIsCounted() {
        Checks.sentence("Promise 11: write");
        LeaseQueue x = new LeaseQueue();
        x.safe(false);
        Samples.pushMany(x, 0, 2);
        Checks.same("pushes", 2, x.total(RECORDS));
        x.take(0, 0, 5);
        Checks.same("take", 3, x.total(RECORDS));
        x.takeAny(0, 5);
        Checks.same("takeAny", 4, x.total(RECORDS));
        x.done(0, 1);
        Checks.same("done", 5, x.total(RECORDS));
        x.done(0, 1);
        Checks.same("done that answers false", 5, x.total(RECORDS));
        x.fail(0, 1, 0);
        Checks.same("fail that answers false", 5, x.total(RECORDS));
        x.fail(0, 2, 0);
        Checks.same("fail", 6, x.total(RECORDS));
        x.take(0, 0, 5);
        x.pass(5);
        Checks.same("what comes back", 8, x.total(RECORDS));
        Checks.same("write", 8, x.write());
        x.take(0, 0, 5);
        x.crash();
        Checks.same("a crash takes what came behind", 8, x.total(RECORDS));
    }

    /** One item, taken and given back until the log has so many records; nothing is written. */
    private static LeaseQueue withRecords(int records) {
        LeaseQueue x = new LeaseQueue();
        x.safe(false);
        x.tries(0, 20);
        Samples.pushPlain(x, 0);
        while (x.total(RECORDS) + 2 <= records) {
            x.chance(0);
            x.take(0, 0, 5);
            x.fail(0, 1, 0);
        }
        if (x.total(RECORDS) < records) {
            x.take(0, 0, 5);
        }
        Checks.same("records of the making", records, x.total(RECORDS));
        return x;
    }

    static void logIsCompacted() {
        Checks.sentence("Promise 11: write");
        LeaseQueue x = withRecords(41);
        Checks.same("not before it is written", 0, x.total(COMPACTINGS));
        Checks.same("write of more than 40", 1, x.write());
        Checks.same("records", 1, x.total(RECORDS));
        Checks.same("compactings", 1, x.total(COMPACTINGS));
        x.crash();
        Checks.same("a crash does not bring records back", 1, x.total(RECORDS));
        Checks.same("compactings stay", 1, x.total(COMPACTINGS));

        LeaseQueue y = withRecords(40);
        Checks.same("write of 40", 40, y.write());
        Checks.same("compactings", 0, y.total(COMPACTINGS));
        y.fail(0, 1, 0);
        Checks.same("counted at once", 41, y.total(RECORDS));
        y.safe(true);
        Checks.isFalse("done that answers false", y.done(7, 1));
        Checks.same("compacted behind a call, too", 1, y.total(RECORDS));
        Checks.same("compactings", 1, y.total(COMPACTINGS));

        LeaseQueue z = withRecords(60);
        z.take(0, 0, 5);
        Checks.isTrue("done", z.done(0, 1));
        Checks.same("all are done", 0, z.write());
        Checks.same("compactings", 1, z.total(COMPACTINGS));
        Checks.same("write again", 0, z.write());
        Checks.same("compactings", 1, z.total(COMPACTINGS));
    }

    static void logIsNotCompactedTooEarly() {
        Checks.sentence("Promise 11: write");
        LeaseQueue x = new LeaseQueue();
        x.limit(0, 20);
        x.safe(false);
        Samples.pushMany(x, 0, 21);
        for (int i = 0; i < 20; i++) {
            x.take(0, 0, 900);
        }
        x.fail(0, 1, 0);
        Checks.same("twice as many as not done", 42, x.write());
        Checks.same("compactings", 0, x.total(COMPACTINGS));
        x.take(0, 0, 900);
        Checks.same("more than twice as many", 21, x.write());
        Checks.same("compactings", 1, x.total(COMPACTINGS));
        x.tries(0, 1);
        x.pass(900);
        Checks.same("what is aside is not done", 41, x.write());
        Checks.same("compactings", 1, x.total(COMPACTINGS));
        x.chance(0);
        Checks.same("write", 21, x.write());
        Checks.same("compactings", 2, x.total(COMPACTINGS));
    }

    static void limitOfConsumer() {
        Checks.sentence("Promise 14: limit");
        LeaseQueue x = new LeaseQueue();
        Samples.pushMany(x, 0, 30);
        for (int consumer = 0; consumer < 8; consumer++) {
            Checks.same("limit at first", 3, x.limit(consumer, consumer));
            Checks.same("limit behind that", consumer, x.limit(consumer, 3));
        }
        Checks.same("no items", 3, x.limit(2, 0));
        Checks.same("take with limit 0", NONE, x.take(0, 2, 5));
        Checks.same("most", 0, x.limit(2, 20));
        for (int i = 1; i <= 20; i++) {
            Checks.same("take with limit 20", i, x.take(0, 2, 5));
        }
        Checks.same("take behind 20", NONE, x.take(0, 2, 5));
        Checks.same("another consumer's limit", 21, x.take(0, 3, 5));
        Checks.same("lowered", 20, x.limit(2, 1));
        x.done(2, 1);
        Checks.same("take with more than the limit", NONE, x.take(0, 2, 5));
    }

    static void rateOfQueue() {
        Checks.sentence("Promise 15: rate");
        LeaseQueue x = new LeaseQueue();
        Samples.pushMany(x, 1, 20);
        x.limit(0, 20);
        x.rate(1, 2, 1000);
        x.take(1, 0, 1000);
        Checks.same("below the rate", 0, x.total(6));
        x.take(1, 0, 1000);
        Checks.same("the rate is reached", 1000, x.total(6));
        Checks.same("take", NONE, x.take(1, 0, 1000));
        Checks.same("another queue's rate", 0, x.total(5));
        x.rate(1, 3, 1000);
        Checks.same("a higher rate", 0, x.total(6));
        Checks.same("take", 3, x.take(1, 0, 1000));
        Checks.same("take", NONE, x.take(1, 0, 1000));
        x.rate(1, 0, 1);
        Checks.same("no rate", 0, x.total(6));
        for (int i = 4; i <= 9; i++) {
            Checks.same("take without a rate", i, x.take(1, 0, 1000));
        }
        x.rate(1, 7, 5);
        Checks.same("reached by what was taken without one", 5, x.total(6));
    }

    static void rateWindow() {
        Checks.sentence("Promise 15: rate");
        LeaseQueue x = new LeaseQueue();
        Samples.pushMany(x, 3, 10);
        x.rate(3, 2, 10);
        Checks.same("take at 0", 1, x.take(3, 0, 500));
        x.pass(4);
        Checks.same("take at 4", 2, x.take(3, 0, 500));
        Checks.same("until the first is out", 6, x.total(8));
        x.pass(5);
        Checks.same("at 9", 1, x.total(8));
        Checks.same("take at 9", NONE, x.take(3, 0, 500));
        x.pass(1);
        Checks.same("at 10", 0, x.total(8));
        Checks.same("take at 10", 3, x.take(3, 0, 500));
        Checks.same("until the second is out", 4, x.total(8));
        x.pass(100);
        Checks.same("at 110", 0, x.total(8));
        x.rate(3, 1, 1);
        Checks.same("take at 110", 4, x.take(3, 1, 500));
        Checks.same("one in one unit", 1, x.total(8));
        x.pass(1);
        Checks.same("take at 111", 5, x.take(3, 1, 500));
    }

    static void triesOfQueue() {
        Checks.sentence("Promise 16: tries");
        LeaseQueue x = new LeaseQueue();
        for (int queue = 0; queue < 4; queue++) {
            Checks.same("tries at first", 3, x.tries(queue, queue + 1));
            Checks.same("tries behind that", queue + 1, x.tries(queue, 3));
        }
        Checks.same("raised", 3, x.tries(0, 20));
        Checks.same("the most", 20, x.tries(0, 20));
        Samples.pushPlain(x, 0);
        for (int i = 1; i <= 20; i++) {
            Checks.same("take", 1, x.take(0, 0, 1));
            Checks.same("tries", i, x.about(1, TRIES));
            Checks.same("pass", 1, x.pass(1));
        }
        Checks.same("behind 20 tries", ASIDE, x.about(1, STATE));
    }

    static void loweredTriesPutAside() {
        Checks.sentence("Promise 16: tries");
        LeaseQueue x = new LeaseQueue();
        Samples.pushMany(x, 0, 2);
        x.take(0, 0, 1);
        x.pass(1);
        x.take(0, 0, 5);
        x.take(0, 0, 9);
        x.tries(0, 1);
        Checks.same("nothing is put aside by that alone", LEASED, x.about(1, STATE));
        Checks.isTrue("fail", x.fail(0, 1, 3));
        Checks.same("more tries than the queue's", ASIDE, x.about(1, STATE));
        Checks.same("due as it was", 0, x.about(1, DUE));
        x.tries(0, 2);
        Checks.isTrue("fail", x.fail(0, 2, 3));
        Checks.same("less tries than the queue's", OPEN, x.about(2, STATE));
        Checks.same("aside stays", ASIDE, x.about(1, STATE));
    }

    static void aboutAnItem() {
        Checks.sentence("Promise 17: about");
        LeaseQueue x = new LeaseQueue();
        x.pass(3);
        Samples.pushPlain(x, 1);
        x.await(1);
        x.push(2, 7, 4, -15, 6);
        int[] open = {2, 7, 7, -15, 6, OPEN, NONE, NONE, 0, 1};
        for (int what = 0; what <= 9; what++) {
            Checks.same("about(2, " + what + ")", open[what], x.about(2, what));
        }
        doneAtOnce(x, 1, 1);
        x.pass(6);
        x.take(2, 5, 8);
        int[] leased = {2, 7, 7, -15, 6, LEASED, 5, 17, 1, 0};
        for (int what = 0; what <= 9; what++) {
            Checks.same("about(2, " + what + ")", leased[what], x.about(2, what));
        }
    }

    static void countOfStates() {
        Checks.sentence("Promise 18: count");
        LeaseQueue x = new LeaseQueue();
        x.tries(0, 1);
        Samples.pushMany(x, 0, 6);
        x.push(0, 5, 1, 0, 0);
        x.await(6);
        Samples.pushPlain(x, 0);
        Samples.pushMany(x, 1, 2);
        doneAtOnce(x, 0, 1);
        x.take(0, 0, 50);
        x.take(0, 0, 50);
        x.take(0, 0, 50);
        x.fail(0, 2, 0);
        Checks.same("open", 4, x.count(0, OPEN));
        Checks.same("leased", 2, x.count(0, LEASED));
        Checks.same("done", 1, x.count(0, DONE));
        Checks.same("aside", 1, x.count(0, ASIDE));
        Checks.same("ready: neither due later nor waiting", 2, x.count(0, READY));
        x.pass(1);
        Checks.same("ready: due now", 3, x.count(0, READY));
        Checks.same("another queue", 2, x.count(1, OPEN));
        Checks.same("another queue", 2, x.count(1, READY));
        Checks.same("an empty queue", 0, x.count(3, OPEN));
    }

    static void peekInTheOrder() {
        Checks.sentence("Promise 19: peek");
        LeaseQueue x = new LeaseQueue();
        x.push(0, 5, 2, 0, 0);
        x.push(0, 5, 1, 0, 0);
        x.push(0, 5, 1, 0, 0);
        x.push(0, 0, 3, 0, 0);
        x.push(0, 1, 9, 0, 0);
        x.await(5);
        x.push(0, 0, 0, 0, 0);
        x.push(1, 0, 0, 0, 0);
        x.rate(0, 1, 9);
        x.limit(0, 0);
        x.pass(3);
        int[] due = {4, 2, 3, 1, NONE, NONE, NONE, NONE};
        for (int i = 0; i < due.length; i++) {
            Checks.same("peek(0, " + i + ")", due[i], x.peek(0, i));
        }
        Checks.same("peek(0, -1)", NONE, x.peek(0, -1));
        Checks.same("peek(0, least)", NONE, x.peek(0, MIN_VALUE));
        Checks.same("peek(0, most)", NONE, x.peek(0, MAX_VALUE));
        Checks.same("another queue", 7, x.peek(1, 0));
        Checks.same("another queue", NONE, x.peek(1, 1));
        Checks.same("take", 4, x.take(0, 1, 5));
        Checks.same("a rate that is reached hides nothing", 2, x.peek(0, 0));
        LeaseQueue y = new LeaseQueue();
        Samples.pushMany(y, 2, 2);
        Checks.same("the last of all items", 2, y.peek(2, 1));
        Checks.same("behind the last", NONE, y.peek(2, 2));
    }

    static void nextReadyTime() {
        Checks.sentence("Promise 20: next");
        LeaseQueue x = new LeaseQueue();
        x.push(0, 5, 8, 0, 0);
        x.push(0, 9, 6, 0, 0);
        x.await(1);
        x.push(0, 0, 0, 0, 0);
        Checks.same("the least due time", 6, x.next(0));
        Checks.same("another queue", NONE, x.next(1));
        x.pass(5);
        Checks.same("the least due time", 6, x.next(0));
        x.pass(2);
        Checks.same("from now on", 7, x.next(0));
        x.pass(1);
        x.rate(0, 1, 1000);
        doneAtOnce(x, 0, 1);
        Checks.same("a rate that is reached hides nothing", 8, x.next(0));

        LeaseQueue y = new LeaseQueue();
        Samples.pushPlain(y, 0);
        y.await(1);
        Samples.pushPlain(y, 1);
        Checks.same("what waits for an open item", NONE, y.next(1));
        y.take(0, 0, 5);
        Checks.same("what waits for a leased item", NONE, y.next(1));
        y.done(0, 1);
        Checks.same("what waits for a done item", 0, y.next(1));
        Checks.same("only done items", NONE, y.next(0));
    }

    static void nextWithLeases() {
        Checks.sentence("Promise 20: next");
        LeaseQueue x = new LeaseQueue();
        x.tries(0, 2);
        Samples.pushPlain(x, 0);
        x.pass(3);
        x.take(0, 0, 10);
        Checks.same("when the lease ends", 13, x.next(0));
        x.push(0, 5, 11, 0, 0);
        Checks.same("before another is due", 13, x.next(0));
        x.push(0, 5, 4, 0, 0);
        Checks.same("behind the due time of another", 7, x.next(0));

        LeaseQueue y = new LeaseQueue();
        y.tries(0, 2);
        Samples.pushPlain(y, 0);
        y.take(0, 0, 1);
        y.pass(1);
        y.take(0, 0, 7);
        Checks.same("what will be aside then", NONE, y.next(0));
        y.tries(0, 3);
        Checks.same("what will be open then", 8, y.next(0));
        y.extend(0, 1, 20);
        Checks.same("an extended lease", 21, y.next(0));
        y.tries(0, 1);
        Checks.same("more tries than the queue's", NONE, y.next(0));
        y.pass(20);
        Checks.same("aside", NONE, y.next(0));
        y.chance(0);
        Checks.same("another chance", 21, y.next(0));
    }

    static void totalTellsOfAll() {
        Checks.sentence("Promise 21: total");
        LeaseQueue x = new LeaseQueue();
        x.pass(30);
        Samples.pushMany(x, 1, 21);
        x.rate(1, 1, 8);
        x.take(1, 0, 900);
        x.pass(3);
        int[] due = {33, 21, 22, 0, 0, 0, 5, 0, 0};
        for (int what = 0; what <= 8; what++) {
            Checks.same("total(" + what + ")", due[what], x.total(what));
        }
        x.rate(1, 0, 1);
        x.limit(0, 20);
        for (int i = 0; i < 19; i++) {
            x.take(1, 0, 900);
        }
        x.rate(3, 1, 1000);
        Checks.isTrue("done, by which 42 records become 20", x.done(0, 1));
        Checks.isTrue("done, by which they are 21", x.done(0, 2));
        Checks.same("crash", 21, x.crash());
        int[] dueThen = {33, 21, 21, 1, 1, 0, 0, 0, 0};
        for (int what = 0; what <= 8; what++) {
            Checks.same("total(" + what + ")", dueThen[what], x.total(what));
        }
    }
}
