/** A test for each sentence of 'What it is' and 'Terms', with the sentence's own words. */
public final class TermsTest implements Names {
    private TermsTest() {
    }

    public static void main(String[] args) {
        Checks.runTests(TermsTest.class);
        Checks.allWasQuoted("What it is", Document.wordsOf("What it is"));
        Checks.allWasQuoted("Terms", Document.wordsOf("Terms"));
        Checks.end();
    }

    static void whatItIs() {
        Checks.sentence("Queues of items that are handed out on lease: by priority, due time and number, once the"
                + " items they wait for are done; what is not done in time comes back, what fails too often is put"
                + " aside, and after a crash everything stands as it was written last.");
        LeaseQueue x = new LeaseQueue();
        x.tries(0, 2);
        x.push(0, 5, 1, 0, 0);
        x.push(0, 5, 0, 0, 0);
        x.push(0, 5, 0, 0, 0);
        x.push(0, 4, 1, 0, 0);
        x.await(4);
        x.push(0, 0, 0, 0, 0);
        x.pass(1);
        Checks.same("by priority, once nothing is waited for", 4, x.take(0, 0, 9));
        Checks.same("by due time and number", 2, x.take(0, 0, 2));
        Checks.same("by due time and number", 3, x.take(0, 0, 9));
        Checks.same("by due time", 1, x.take(0, 1, 9));
        Checks.isTrue("done", x.done(0, 4));
        Checks.same("what was waited for is done", 5, x.take(0, 1, 9));
        Checks.same("what is not done in time", 1, x.pass(2));
        Checks.same("comes back", 2, x.take(0, 0, 9));
        Checks.isTrue("what fails", x.fail(0, 2, 0));
        Checks.same("too often is aside", ASIDE, x.about(2, STATE));
        Checks.isTrue("what fails once", x.fail(0, 3, 0));
        Checks.same("is taken again", 3, x.take(0, 0, 9));
        Checks.same("a crash", 5, x.crash());
        int[] states = {OPEN, ASIDE, OPEN, DONE, OPEN};
        int[] tries = {1, 2, 1, 1, 1};
        for (int item = 1; item <= 5; item++) {
            Checks.same("state of item " + item, states[item - 1], x.about(item, STATE));
            Checks.same("tries of item " + item, tries[item - 1], x.about(item, TRIES));
        }
    }

    static void anObjectIsUsedFor512Calls() {
        Checks.sentence("An object is used for at most 512 calls after it has been made;"
                + " what later calls answer is free.");
        LeaseQueue x = new LeaseQueue();
        for (int call = 1; call <= 500; call += 5) {
            int item = Samples.pushPlain(x, 3);
            Checks.same("take", item, x.take(3, 0, 1000));
            Checks.same("pass", 1, x.pass(1000));
            Checks.same("take again", item, x.take(3, 0, 1000));
            Checks.isTrue("done", x.done(0, item));
        }
        for (int call = 501; call <= 511; call++) {
            Checks.same("pass", 0, x.pass(2000));
        }
        Checks.same("call 512", 100 * 1000 + 11 * 2000, x.total(TIME));
    }

    static void time() {
        Checks.sentence("TIME is a number, 0 at first.");
        LeaseQueue x = new LeaseQueue();
        Checks.same("at first", 0, x.total(TIME));
        x.pass(12);
        Checks.same("behind 12 units", 12, x.total(TIME));
        Samples.pushPlain(x, 0);
        Checks.same("what is due now", 12, x.about(1, DUE));
    }

    static void queuesAndConsumers() {
        Checks.sentence("QUEUES are 0 .. 3, CONSUMERS 0 .. 7.");
        LeaseQueue x = new LeaseQueue();
        for (int queue = 0; queue <= 3; queue++) {
            Samples.pushPlain(x, queue);
            Samples.pushPlain(x, queue);
        }
        for (int consumer = 0; consumer <= 7; consumer++) {
            int queue = consumer / 2;
            Checks.same("take", consumer + 1, x.take(queue, consumer, 5));
            Checks.same("queue", queue, x.about(consumer + 1, QUEUE));
            Checks.same("consumer", consumer, x.about(consumer + 1, CONSUMER));
        }
        for (int queue : new int[] {-1, 4}) {
            Checks.refused("push to queue " + queue, () -> Samples.pushPlain(x, queue));
            Checks.refused("take from queue " + queue, () -> x.take(queue, 0, 5));
            Checks.refused("chance of queue " + queue, () -> x.chance(queue));
            Checks.refused("rate of queue " + queue, () -> x.rate(queue, 1, 1));
            Checks.refused("tries of queue " + queue, () -> x.tries(queue, 3));
            Checks.refused("count of queue " + queue, () -> x.count(queue, OPEN));
            Checks.refused("peek at queue " + queue, () -> x.peek(queue, 0));
            Checks.refused("next of queue " + queue, () -> x.next(queue));
        }
        for (int consumer : new int[] {-1, 8}) {
            Checks.refused("take by consumer " + consumer, () -> x.take(0, consumer, 5));
            Checks.refused("takeAny by consumer " + consumer, () -> x.takeAny(consumer, 5));
            Checks.refused("done by consumer " + consumer, () -> x.done(consumer, 1));
            Checks.refused("fail by consumer " + consumer, () -> x.fail(consumer, 1, 0));
            Checks.refused("extend by consumer " + consumer, () -> x.extend(consumer, 1, 5));
            Checks.refused("limit of consumer " + consumer, () -> x.limit(consumer, 3));
        }
    }

    static void itemsHaveNumbers() {
        Checks.sentence("ITEMS have numbers 1, 2, .. in the order in which they were pushed, at most 400.");
        LeaseQueue x = new LeaseQueue();
        for (int item = 1; item <= 400; item++) {
            Checks.same("push", item, x.push(item % 4, 9 - item % 10, 0, 1000 + item, 0));
        }
        Checks.throwsException("one more", UnsupportedOperationException.class, () -> Samples.pushPlain(x, 0));
        Checks.same("items", 400, x.total(ITEMS));
        for (int item : new int[] {1, 2, 399, 400}) {
            Checks.same("body of item " + item, 1000 + item, x.about(item, BODY));
        }
        Checks.refused("item 0", () -> x.about(0, BODY));
        Checks.refused("item 401", () -> x.about(401, BODY));
    }

    static void whatAnItemHas() {
        Checks.sentence("An item has a QUEUE, a PRIORITY 0 .. 9 (0 comes first), a DUE time, a body, a KEY (0: none),"
                + " up to three items that it WAITS FOR, TRIES (how often it was taken since it was pushed or given"
                + " another chance), and a STATE: 0 OPEN, 1 LEASED (to a consumer, until a time), 2 DONE, 3 ASIDE.");
        LeaseQueue x = new LeaseQueue();
        Samples.pushMany(x, 1, 3);
        for (int item = 1; item <= 3; item++) {
            x.await(item);
        }
        x.pass(4);
        x.push(2, 9, 6, -70, 8);
        tellsOf(x, 4, 2, 9, 10, -70, 8, 0, NONE, NONE, 0, 3);
        x.push(2, 0, 6, 71, 0);
        tellsOf(x, 5, 2, 0, 10, 71, 0, 0, NONE, NONE, 0, 0);
        for (int item = 1; item <= 3; item++) {
            x.take(1, 7, 1);
            x.done(7, item);
        }
        x.pass(6);
        Checks.same("0 comes first", 5, x.take(2, 6, 5));
        tellsOf(x, 5, 2, 0, 10, 71, 0, 1, 6, 15, 1, 0);
        x.done(6, 5);
        tellsOf(x, 5, 2, 0, 10, 71, 0, 2, NONE, NONE, 1, 0);
        x.tries(2, 1);
        x.take(2, 6, 5);
        x.fail(6, 4, 50);
        tellsOf(x, 4, 2, 9, 10, -70, 8, 3, NONE, NONE, 1, 0);
        x.chance(2);
        tellsOf(x, 4, 2, 9, 10, -70, 8, 0, NONE, NONE, 0, 0);
        Checks.refused("priority -1", () -> x.push(0, -1, 0, 0, 0));
        Checks.refused("priority 10", () -> x.push(0, 10, 0, 0, 0));
    }

    private static void tellsOf(LeaseQueue x, int item, int... due) {
        for (int what = QUEUE; what <= WAITS; what++) {
            Checks.same("about(" + item + ", " + what + ")", due[what], x.about(item, what));
        }
    }

    static void ready() {
        Checks.sentence("READY is an open item whose due time is not above TIME, if all it waits for is done.");
        LeaseQueue x = new LeaseQueue();
        x.tries(0, 1);
        Samples.pushMany(x, 0, 3);
        x.push(0, 5, 2, 0, 0);
        x.await(1);
        x.await(2);
        Samples.pushPlain(x, 0);
        Checks.same("three are due and wait for nothing", 3, x.count(0, READY));
        x.pass(1);
        Checks.same("due above TIME", 3, x.count(0, READY));
        x.pass(1);
        Checks.same("due at TIME", 4, x.count(0, READY));
        x.take(0, 0, 9);
        x.take(0, 0, 9);
        x.take(0, 0, 9);
        Checks.same("leased", 1, x.count(0, READY));
        x.fail(0, 3, 0);
        Checks.same("aside", 1, x.count(0, READY));
        x.done(0, 1);
        Checks.same("done, and one of two that it waits for", 1, x.count(0, READY));
        x.done(0, 2);
        Checks.same("both that it waits for", 2, x.count(0, READY));
        Checks.same("it comes first by its due time", 5, x.peek(0, 0));
    }

    static void theOrder() {
        Checks.sentence("THE ORDER is by priority, then due time, then number.");
        LeaseQueue x = new LeaseQueue();
        x.push(0, 2, 0, 0, 0);
        x.push(0, 1, 3, 0, 0);
        x.push(0, 1, 2, 0, 0);
        x.push(0, 1, 2, 0, 0);
        x.push(0, 0, 4, 0, 0);
        x.pass(4);
        int[] due = {5, 3, 4, 2, 1, NONE};
        for (int i = 0; i < due.length; i++) {
            Checks.same("peek " + i, due[i], x.peek(0, i));
        }
        for (int i = 0; i < due.length; i++) {
            Checks.same("take " + i, due[i], x.take(0, i, 5));
        }
    }

    static void limits() {
        Checks.sentence("Each consumer may have so many items on lease at a time as its LIMIT says (3 at first).");
        LeaseQueue x = Samples.withItems(40);
        for (int consumer = 0; consumer <= 7; consumer++) {
            for (int i = 1; i <= 3; i++) {
                Checks.isFalse("NONE of 3", x.take(0, consumer, 5) == NONE);
            }
            Checks.same("a fourth", NONE, x.take(0, consumer, 5));
            Checks.same("a fourth of all queues", NONE, x.takeAny(consumer, 5));
            Checks.same("limit", 3, x.limit(consumer, 4));
            Checks.isFalse("NONE of 4", x.take(0, consumer, 5) == NONE);
            Checks.same("a fifth", NONE, x.take(0, consumer, 5));
        }
        x.done(0, 1);
        Checks.isFalse("NONE behind done", x.take(0, 0, 5) == NONE);
        Checks.same("one more", NONE, x.take(0, 0, 5));
    }

    static void ratesAndTries() {
        Checks.sentence("Each queue has a RATE, n takes in w units (at first none): an item is taken from it only if"
                + " less than n were at times above TIME - w; and a number of TRIES, 1 .. 20 (3 at first).");
        for (int queue = 0; queue <= 3; queue++) {
            rateOf(queue);
            triesOf(queue);
        }
    }

    private static void rateOf(int queue) {
        LeaseQueue x = new LeaseQueue();
        x.limit(0, 20);
        Samples.pushMany(x, queue, 12);
        for (int item = 1; item <= 8; item++) {
            Checks.same("take without a rate", item, x.take(queue, 0, 900));
        }
        x.pass(50);
        x.rate(queue, 2, 10);
        Checks.same("less than 2 above 40: none", 9, x.take(queue, 0, 900));
        x.pass(4);
        Checks.same("less than 2 above 44: one", 10, x.take(queue, 0, 900));
        Checks.same("two above 44", NONE, x.take(queue, 0, 900));
        x.pass(5);
        Checks.same("two above 49", NONE, x.take(queue, 0, 900));
        Checks.same("of all queues", NONE, x.takeAny(0, 900));
        x.pass(1);
        Checks.same("one above 50", 11, x.takeAny(0, 900));
        Checks.same("two above 50", NONE, x.takeAny(0, 900));
    }

    private static void triesOf(int queue) {
        LeaseQueue x = new LeaseQueue();
        Samples.pushPlain(x, queue);
        for (int most : new int[] {3, 1, 20}) {
            for (int i = 1; i <= most; i++) {
                Checks.same("take", 1, x.take(queue, 0, 5));
                Checks.isTrue("fail", x.fail(0, 1, 0));
                Checks.same("state behind " + i + " of " + most, i < most ? OPEN : ASIDE, x.about(1, STATE));
            }
            x.chance(queue);
            x.tries(queue, most == 3 ? 1 : 20);
        }
        Checks.refused("tries 0", () -> x.tries(queue, 0));
        Checks.refused("tries 21", () -> x.tries(queue, 21));
        Checks.same("tries", 20, x.tries(queue, 3));
    }

    static void written() {
        Checks.sentence("WRITTEN is what stands when it is written: of all items whether they are there, all told"
                + " above of them, and the next number.");
        LeaseQueue x = new LeaseQueue();
        x.tries(1, 1);
        x.safe(false);
        x.push(0, 5, 0, 11, 1);
        x.push(1, 4, 0, 12, 2);
        x.await(1);
        x.await(2);
        x.push(2, 3, 7, 13, 3);
        x.pass(2);
        x.take(0, 0, 9);
        x.fail(0, 1, 4);
        x.take(1, 0, 9);
        x.fail(0, 2, 4);
        x.write();
        x.chance(1);
        x.pass(5);
        x.take(0, 0, 9);
        x.done(0, 1);
        x.take(1, 0, 9);
        x.done(0, 2);
        x.take(2, 0, 9);
        x.fail(0, 3, 40);
        Checks.same("behind the writing", 4, x.push(3, 0, 0, 0, 0));
        Checks.same("items that are there", 3, x.crash());
        tellsOf(x, 1, 0, 5, 6, 11, 1, OPEN, NONE, NONE, 1, 0);
        tellsOf(x, 2, 1, 4, 0, 12, 2, ASIDE, NONE, NONE, 1, 0);
        tellsOf(x, 3, 2, 3, 7, 13, 3, OPEN, NONE, NONE, 0, 2);
        Checks.refused("an item that is not there", () -> x.about(4, STATE));
        Checks.same("a key that is there", 1, x.push(0, 0, 0, 0, 1));
        Checks.same("the next number", 4, x.push(0, 0, 0, 0, 0));
    }

    static void crashing() {
        Checks.sentence("CRASHING brings that back; but LEASED items are open then.");
        LeaseQueue x = Samples.withItems(3);
        x.take(0, 4, 50);
        x.take(0, 4, 50);
        x.done(4, 1);
        x.take(0, 4, 50);
        Checks.same("crash", 3, x.crash());
        tellsOf(x, 1, 0, 5, 0, 0, 0, DONE, NONE, NONE, 1, 0);
        tellsOf(x, 2, 0, 5, 0, 0, 0, OPEN, NONE, NONE, 1, 0);
        tellsOf(x, 3, 0, 5, 0, 0, 0, OPEN, NONE, NONE, 0, 0);
        Checks.isFalse("done of what was leased", x.done(4, 2));
        Checks.same("no lease ends", 0, x.pass(60));
        Checks.same("it is taken again", 2, x.take(0, 5, 50));
        Checks.same("a second crash", 3, x.crash());
        tellsOf(x, 2, 0, 5, 0, 0, 0, OPEN, NONE, NONE, 1, 0);
    }

    static void whatStaysInACrash() {
        Checks.sentence("(TIME, limits, rates, tries of queues, what was taken when stay as they are.)");
        LeaseQueue x = Samples.withItems(2);
        x.pass(9);
        x.take(0, 0, 50);
        x.limit(0, 1);
        x.rate(0, 1, 30);
        x.tries(0, 7);
        x.pass(4);
        Checks.same("crash", 2, x.crash());
        Checks.same("TIME", 13, x.total(TIME));
        Checks.same("what was taken when, and the rate", 26, x.total(RATE_OF_QUEUE_0));
        Checks.same("take", NONE, x.take(0, 0, 50));
        x.pass(26);
        Checks.same("take behind the rate", 1, x.take(0, 0, 50));
        Checks.same("the rate again", 30, x.total(RATE_OF_QUEUE_0));
        x.rate(0, 0, 1);
        Checks.same("the limit", NONE, x.take(0, 0, 50));
        Checks.same("limit", 1, x.limit(0, 3));
        Checks.same("tries", 7, x.tries(0, 3));
    }

    static void safe() {
        Checks.sentence("With SAFE on (as at first) it is written behind each push, done, fail, chance that throws"
                + " nothing (also if it answers 0, false or an older item), and each passing of time by which"
                + " something comes back; otherwise by write() alone.");
        LeaseQueue x = new LeaseQueue();
        Checks.isTrue("safe at first", x.safe(true));
        x.tries(0, 20);
        isWritten(x, true, "push", () -> Checks.same("push", 1, x.push(0, 5, 0, 0, 7)));
        isWritten(x, true, "push of an older item", () -> Checks.same("push", 1, x.push(0, 5, 0, 0, 7)));
        isWritten(x, true, "push", () -> Checks.same("push", 2, x.push(1, 5, 0, 0, 0)));
        isWritten(x, true, "done", () -> {
            x.take(1, 1, 9);
            Checks.isTrue("done", x.done(1, 2));
        });
        isWritten(x, true, "done that answers false", () -> Checks.isFalse("done", x.done(1, 2)));
        isWritten(x, true, "fail", () -> Checks.isTrue("fail", x.fail(0, 1, 0)));
        isWritten(x, true, "fail that answers false", () -> Checks.isFalse("fail", x.fail(1, 1, 0)));
        isWritten(x, true, "chance that answers 0", () -> Checks.same("chance", 0, x.chance(1)));
        x.tries(2, 1);
        Checks.same("push", 3, Samples.pushPlain(x, 2));
        x.take(2, 1, 9);
        Checks.isTrue("fail, by which it is aside", x.fail(1, 3, 0));
        isWritten(x, true, "chance", () -> Checks.same("chance", 1, x.chance(2)));
        Checks.same("state behind chance", OPEN, x.about(3, STATE));
        isWritten(x, true, "time by which it comes back", () -> Checks.same("pass", 1, x.pass(9)));
        isWritten(x, true, "write", x::write);
        isWritten(x, false, "time by which nothing comes back", () -> Checks.same("pass", 0, x.pass(1)));
        isWritten(x, false, "extend", () -> Checks.isTrue("extend", x.extend(0, 1, 9)));
        isWritten(x, false, "push that throws", () -> Checks.refused("push", () -> x.push(4, 0, 0, 0, 0)));
        isWritten(x, false, "done that throws", () -> Checks.refused("done", () -> x.done(0, 4)));
        isWritten(x, false, "fail that throws", () -> Checks.refused("fail", () -> x.fail(0, 1, -1)));
        isWritten(x, false, "chance that throws", () -> Checks.refused("chance", () -> x.chance(4)));
        isWritten(x, false, "safe off", () -> Checks.isTrue("safe", x.safe(false)));
        isWritten(x, false, "push", () -> Checks.same("push", 4, x.push(1, 5, 0, 0, 0)));
        isWritten(x, false, "done", () -> Checks.isTrue("done", x.done(0, 1)));
        isWritten(x, false, "fail", () -> Checks.isTrue("fail", x.fail(0, 1, 0)));
        isWritten(x, false, "chance", () -> Checks.same("chance", 0, x.chance(0)));
        isWritten(x, false, "time by which it comes back", () -> Checks.same("pass", 1, x.pass(9)));
        isWritten(x, true, "write", x::write);
        isWritten(x, false, "safe on", () -> Checks.isFalse("safe", x.safe(true)));
    }

    /** A take of item 1 comes before the call, if there is one: it shows by the tries whether it is written. */
    private static void isWritten(LeaseQueue x, boolean due, String what, Runnable call) {
        boolean taken = x.take(0, 0, 9) == 1;
        int before = taken ? x.about(1, TRIES) - 1 : 0;
        call.run();
        int items = x.total(ITEMS);
        boolean kept = x.crash() == items && (!taken || x.about(1, TRIES) == before + 1);
        Checks.isTrue(what + (due ? " is written" : " is not written"), kept == due);
    }

    static void theLog() {
        Checks.sentence("THE LOG has one RECORD for each push, take, done, fail, chance of an item, and for each item"
                + " that comes back by time; they are counted at once, and a crash takes those that came behind the"
                + " latest writing.");
        LeaseQueue x = new LeaseQueue();
        x.safe(false);
        x.tries(0, 1);
        Samples.pushMany(x, 0, 6);
        Checks.same("six pushes", 6, x.total(RECORDS));
        x.take(0, 0, 5);
        x.take(0, 0, 5);
        x.takeAny(1, 5);
        x.takeAny(1, 5);
        Checks.same("four takes", 10, x.total(RECORDS));
        x.done(0, 1);
        Checks.same("done", 11, x.total(RECORDS));
        x.fail(0, 2, 0);
        Checks.same("fail", 12, x.total(RECORDS));
        x.pass(5);
        Checks.same("two that come back", 14, x.total(RECORDS));
        Checks.same("write", 14, x.write());
        Checks.same("chance", 3, x.chance(0));
        Checks.same("three that get another chance", 17, x.total(RECORDS));
        Checks.same("push with a key", 7, x.push(0, 0, 0, 0, 9));
        Checks.same("push of an older item", 7, x.push(0, 0, 0, 0, 9));
        x.done(0, 1);
        x.fail(0, 1, 0);
        x.chance(1);
        x.take(3, 0, 5);
        x.pass(1);
        Checks.same("what does nothing to an item has none", 18, x.total(RECORDS));
        x.crash();
        Checks.same("what came behind the writing is gone", 14, x.total(RECORDS));
    }

    static void compacted() {
        Checks.sentence("Whenever it is written, and there are more records than 40 and twice as many as items that"
                + " are not done, it is COMPACTED: as many as these.");
        LeaseQueue x = new LeaseQueue();
        x.safe(false);
        x.limit(0, 20);
        Samples.pushMany(x, 0, 20);
        for (int item = 1; item <= 20; item++) {
            x.take(0, 0, 900);
        }
        Checks.same("40 records, 20 items", 40, x.write());
        x.done(0, 1);
        Checks.same("counted at once, not compacted at once", 41, x.total(RECORDS));
        Checks.same("41 records, 19 not done", 19, x.write());
        Checks.same("compacted", 1, x.total(COMPACTINGS));
        x.crash();
        Checks.same("a crash does not undo it", 19, x.total(RECORDS));

        LeaseQueue y = new LeaseQueue();
        y.limit(0, 20);
        Samples.pushMany(y, 0, 30);
        for (int item = 1; item <= 20; item++) {
            y.take(0, 0, 900);
        }
        for (int item = 1; item <= 3; item++) {
            y.done(0, item);
            Checks.same("more than 40, not more than twice 30 - " + item, 50 + item, y.total(RECORDS));
        }
        y.done(0, 4);
        Checks.same("54 records, 26 not done", 26, y.total(RECORDS));
        Checks.same("compacted behind a call", 1, y.total(COMPACTINGS));
    }

    static void whatThrowsChangesNothing() {
        Checks.sentence("A call that throws changes nothing;"
                + " of several exceptions that fit the one named first is thrown.");
        Class<? extends RuntimeException> first = IllegalArgumentException.class;
        Checks.throwsAndChangesNothing("push", first, Samples::busy, x -> x.push(0, 5, 1001, 0, 0));
        Checks.throwsAndChangesNothing("await", first, Samples::busy, x -> x.await(8));
        Checks.throwsAndChangesNothing("take", first, Samples::busy, x -> x.take(3, 1, 0));
        Checks.throwsAndChangesNothing("takeAny", first, Samples::busy, x -> x.takeAny(8, 5));
        Checks.throwsAndChangesNothing("done", first, Samples::busy, x -> x.done(8, 7));
        Checks.throwsAndChangesNothing("fail", first, Samples::busy, x -> x.fail(2, 7, 1001));
        Checks.throwsAndChangesNothing("extend", first, Samples::busy, x -> x.extend(2, 7, 1001));
        Checks.throwsAndChangesNothing("chance", first, Samples::busy, x -> x.chance(-1));
        Checks.throwsAndChangesNothing("pass", first, Samples::busy, x -> x.pass(2001));
        Checks.throwsAndChangesNothing("limit", first, Samples::busy, x -> x.limit(0, 21));
        Checks.throwsAndChangesNothing("rate", first, Samples::busy, x -> x.rate(0, 5, 0));
        Checks.throwsAndChangesNothing("tries", first, Samples::busy, x -> x.tries(0, 0));
        Checks.throwsAndChangesNothing("a fourth to wait for", IllegalStateException.class, TermsTest::withThreeTold,
                x -> x.await(4));
        Checks.throwsAndChangesNothing("a fourth that is not there", first, TermsTest::withThreeTold,
                x -> x.await(8));
        // All that can be asked of 400 items is more than 512 calls, so only what a push would change is.
        LeaseQueue full = Samples.full();
        Checks.throwsException("a 401st", UnsupportedOperationException.class, () -> full.push(1, 6, 1, 2, 3));
        Checks.throwsException("a 401st with priority 10", first, () -> full.push(1, 10, 0, 0, 0));
        Checks.same("items", 400, full.total(ITEMS));
        Checks.same("records", 400, full.total(RECORDS));
        tellsOf(full, 400, 1, 5, 0, 0, 49, OPEN, NONE, NONE, 0, 0);
    }

    private static LeaseQueue withThreeTold() {
        LeaseQueue x = Samples.busy();
        x.await(2);
        return x;
    }

    static void whatIsRefused() {
        Checks.sentence("IllegalArgumentException: there is no such queue, consumer or item,"
                + " or a number is not as it may be.");
        LeaseQueue x = Samples.busy();
        Checks.refused("no such queue", () -> x.take(4, 0, 5));
        Checks.refused("no such consumer", () -> x.take(0, 8, 5));
        Checks.refused("no such item", () -> x.done(0, 8));
        Checks.refused("no such priority", () -> x.push(0, 10, 0, 0, 0));
        Checks.refused("no such delay", () -> x.fail(0, 1, -1));
        Checks.refused("no such key", () -> x.push(0, 0, 0, 0, -1));
        Checks.refused("no such lease", () -> x.takeAny(0, 0));
        Checks.refused("no such passing", () -> x.pass(-1));
        Checks.refused("no such limit", () -> x.limit(0, -1));
        Checks.refused("no such rate", () -> x.rate(0, 101, 1));
        Checks.refused("no such tries", () -> x.tries(0, 21));
        Checks.refused("no such question about an item", () -> x.about(1, 10));
        Checks.refused("no such state", () -> x.count(0, 5));
        Checks.refused("no such total", () -> x.total(9));
    }
}
