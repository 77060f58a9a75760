import static java.lang.Integer.MAX_VALUE;
import static java.lang.Integer.MIN_VALUE;

/** What the terms say of all calls: a test for each sentence that names a boundary case. */
public final class EdgesOfTermsTest implements Names {
    private static final int CALLS = 512;

    private EdgesOfTermsTest() {
    }

    public static void main(String[] args) {
        Checks.runAll(EdgesOfTermsTest.class);
    }

    static void noneIsMinusOne() {
        Checks.sentence("public static final int NONE = -1;");
        Checks.same("NONE", -1, LeaseQueue.NONE);
    }

    static void fiveHundredAndTwelveCallsOfTime() {
        Checks.sentence("An object is used for at most 512 calls after it has been made");
        LeaseQueue x = new LeaseQueue();
        Samples.pushPlain(x, 0);
        for (int call = 2; call <= CALLS - 5; call++) {
            x.pass(2000);
        }
        int time = 2000 * (CALLS - 6);
        Checks.same("TIME", time, x.total(TIME));
        Checks.same("take", 1, x.take(0, 0, 1000));
        Checks.same("until", time + 1000, x.about(1, UNTIL));
        Checks.same("push", 2, x.push(0, 5, 1000, 0, 0));
        Checks.same("due, by call 512", time + 1000, x.about(2, DUE));
    }

    static void fiveHundredAndTwelveCallsOfItems() {
        Checks.sentence("An object is used for at most 512 calls after it has been made");
        LeaseQueue x = Samples.withItems(400);
        for (int i = 1; i <= 36; i++) {
            Checks.same("take", i, x.take(0, 0, 1));
            Checks.isTrue("done", x.done(0, i));
            x.pass(1);
        }
        Checks.same("records", 400 + 72, x.write());
        Checks.same("done", 36, x.count(0, DONE));
        Checks.same("crash", 400, x.crash());
        Checks.same("call 512", 37, x.peek(0, 0));
    }

    static void timeIsZeroAtFirst() {
        Checks.sentence("TIME is a number, 0 at first.");
        LeaseQueue x = new LeaseQueue();
        Checks.same("TIME", 0, x.total(TIME));
        Samples.pushPlain(x, 0);
        Checks.same("due", 0, x.about(1, DUE));
        Checks.same("it is ready", 1, x.take(0, 0, 1));
        Checks.same("until", 1, x.about(1, UNTIL));
    }

    static void itemsAreNumberedInTheOrderOfTheirPushes() {
        Checks.sentence("ITEMS have numbers 1, 2, .. in the order in which they were pushed, at most 400.");
        LeaseQueue x = new LeaseQueue();
        for (int item = 1; item <= 400; item++) {
            Checks.same("push", item, x.push(item % 4, item % 10, item % 1001, item, item));
        }
        Checks.throwsException("push", UnsupportedOperationException.class, () -> Samples.pushPlain(x, 0));
        Checks.same("the first one's body", 1, x.about(1, BODY));
        Checks.same("the last one's body", 400, x.about(400, BODY));
        Checks.same("items", 400, x.total(ITEMS));
    }

    static void priorityZeroComesFirst() {
        Checks.sentence("a PRIORITY 0 .. 9 (0 comes first)");
        LeaseQueue x = new LeaseQueue();
        x.push(0, 9, 0, 0, 0);
        x.push(0, 1, 0, 0, 0);
        x.push(0, 0, 0, 0, 0);
        Checks.same("0", 3, x.take(0, 0, 1));
        Checks.same("1", 2, x.take(0, 0, 1));
        Checks.same("9", 1, x.take(0, 0, 1));
    }

    static void triesAreCountedSincePushOrChance() {
        Checks.sentence("TRIES (how often it was taken since it was pushed or given another chance)");
        LeaseQueue x = Samples.withItems(1);
        Checks.same("pushed", 0, x.about(1, TRIES));
        x.take(0, 0, 1);
        Checks.same("taken once", 1, x.about(1, TRIES));
        x.fail(0, 1, 0);
        x.takeAny(0, 1);
        Checks.same("taken twice", 2, x.about(1, TRIES));
        x.pass(1);
        x.take(0, 0, 1);
        x.pass(1);
        Checks.same("taken three times", 3, x.about(1, TRIES));
        x.chance(0);
        Checks.same("given another chance", 0, x.about(1, TRIES));
        x.take(0, 0, 1);
        Checks.same("taken once since", 1, x.about(1, TRIES));
    }

    static void theWrongNumberMayBeAnyOfThem() {
        Checks.sentence("IllegalArgumentException: there is no such queue, consumer or item,"
                + " or a number is not as it may be.");
        for (int n : new int[] {MIN_VALUE, -2, 1002, MAX_VALUE}) {
            int least = n < 0 ? n : MIN_VALUE;
            Checks.refusedAndChangesNothing("push", Samples::busy, x -> x.push(n, n, n, n, least));
            Checks.refusedAndChangesNothing("await", Samples::busy, x -> x.await(n));
            Checks.refusedAndChangesNothing("take", Samples::busy, x -> x.take(n, n, n));
            Checks.refusedAndChangesNothing("takeAny", Samples::busy, x -> x.takeAny(n, n));
            Checks.refusedAndChangesNothing("done", Samples::busy, x -> x.done(n, n));
            Checks.refusedAndChangesNothing("fail", Samples::busy, x -> x.fail(n, n, n));
            Checks.refusedAndChangesNothing("extend", Samples::busy, x -> x.extend(n, n, n));
            Checks.refusedAndChangesNothing("chance", Samples::busy, x -> x.chance(n));
            Checks.refusedAndChangesNothing("limit", Samples::busy, x -> x.limit(n, n));
            Checks.refusedAndChangesNothing("rate", Samples::busy, x -> x.rate(n, n, n));
            Checks.refusedAndChangesNothing("tries", Samples::busy, x -> x.tries(n, n));
            Checks.refusedAndChangesNothing("about", Samples::busy, x -> x.about(n, n));
            Checks.refusedAndChangesNothing("count", Samples::busy, x -> x.count(n, n));
            Checks.refusedAndChangesNothing("peek", Samples::busy, x -> x.peek(n, n));
            Checks.refusedAndChangesNothing("next", Samples::busy, x -> x.next(n));
            Checks.refusedAndChangesNothing("total", Samples::busy, x -> x.total(n));
        }
    }

    static void objectsDoNotKnowOneAnother() {
        Checks.sentence("1: No items; it is written so.");
        LeaseQueue x = Samples.busy();
        LeaseQueue y = new LeaseQueue();
        Checks.same("items of the new one", 0, y.total(ITEMS));
        Samples.pushPlain(y, 0);
        y.pass(9);
        y.limit(0, 0);
        Checks.same("items of the other", 7, x.total(ITEMS));
        Checks.same("TIME of the other", 8, x.total(TIME));
        Checks.same("limit of the other", 3, x.limit(0, 3));
        Checks.same("written of the other", 7, x.crash());
    }
}
