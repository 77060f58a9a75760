/** Promises 6 to 10, done, fail, extend, chance, pass: a test for each sentence that names a boundary case. */
public final class EdgesOfLeasesTest implements Names {
    private EdgesOfLeasesTest() {
    }

    public static void main(String[] args) {
        Checks.runAll(EdgesOfLeasesTest.class);
    }

    // ---- promise 6

    static void doneOfWhatItHad() {
        Checks.sentence("6: A consumer has done an item: whether it had it on lease.");
        LeaseQueue x = withOneLeased();
        x.pass(9);
        Checks.isTrue("done in the lease's last unit", x.done(7, 1));
        Checks.same("state", DONE, x.about(1, STATE));
        Checks.same("consumer", NONE, x.about(1, CONSUMER));
        Checks.same("until", NONE, x.about(1, UNTIL));
        Checks.same("tries as they were", 1, x.about(1, TRIES));
        Checks.same("due as it was", 2, x.about(1, DUE));
        Checks.same("records", 3, x.total(RECORDS));
        Checks.same("pass beyond the lease", 0, x.pass(1));
        Checks.same("it stays done", DONE, x.about(1, STATE));
    }

    static void doneWhenTheLeaseHasEnded() {
        Checks.sentence("6: whether it had it on lease");
        LeaseQueue x = withOneLeased();
        x.pass(10);
        Checks.isFalse("done at the lease's end", x.done(7, 1));
        Checks.same("state", OPEN, x.about(1, STATE));
        x.take(0, 7, 10);
        x.crash();
        Checks.isFalse("done behind a crash", x.done(7, 1));
        Checks.same("state", OPEN, x.about(1, STATE));
    }

    static void doneOfWhatItHadNot() {
        Checks.sentence("6: whether it had it on lease");
        Checks.isFalse("an open item", Samples.busy().done(0, 1));
        Checks.isFalse("an item aside", Samples.busy().done(1, 3));
        Checks.isFalse("a done item", Samples.busy().done(1, 4));
        Checks.isFalse("another consumer's, one below", Samples.busy().done(1, 7));
        Checks.isFalse("another consumer's, one above", Samples.busy().done(3, 7));
        int[][] calls = {{0, 1}, {1, 3}, {1, 4}, {1, 7}, {3, 7}};
        for (int[] call : calls) {
            String what = "done(" + call[0] + ", " + call[1] + ")";
            Checks.sameEffect(what + " with SAFE on", Samples::busy, x -> x.done(call[0], call[1]), LeaseQueue::write);
            Checks.changesNothing(what + " with SAFE off", EdgesOfLeasesTest::busyNotSafe,
                    x -> x.done(call[0], call[1]));
        }
    }

    static void doneRefusesWrongConsumers() {
        Checks.sentence("6: IllegalArgumentException: there is no such .. consumer");
        Checks.onlyWithin("consumer", 0, 7, (x, n) -> x.done(n, 1));
        LeaseQueue x = Samples.withItems(2);
        x.take(0, 0, 5);
        x.take(0, 7, 5);
        Checks.isTrue("the first consumer", x.done(0, 1));
        Checks.isTrue("the last consumer", x.done(7, 2));
    }

    static void doneRefusesItemsThatAreNotThere() {
        Checks.sentence("6: IllegalArgumentException: there is no such .. item");
        Checks.onlyWithin("item", 1, 7, (x, n) -> x.done(0, n));
        LeaseQueue x = Samples.withItems(400);
        x.limit(0, 20);
        x.take(0, 0, 5);
        Checks.isTrue("the first item", x.done(0, 1));
        Checks.isFalse("the last of 400 items", x.done(0, 400));
        Checks.refused("the one behind it", () -> x.done(0, 401));
    }

    // ---- promise 7

    static void failWithNoDelay() {
        Checks.sentence("7: it is open, due so many units from now on");
        LeaseQueue x = withOneLeased();
        x.pass(9);
        Checks.isTrue("fail in the lease's last unit", x.fail(7, 1, 0));
        Checks.same("state", OPEN, x.about(1, STATE));
        Checks.same("due now", 11, x.about(1, DUE));
        Checks.same("consumer", NONE, x.about(1, CONSUMER));
        Checks.same("until", NONE, x.about(1, UNTIL));
        Checks.same("tries as they were", 1, x.about(1, TRIES));
        Checks.same("records", 3, x.total(RECORDS));
        Checks.same("it is ready at once", 1, x.take(0, 7, 1));
    }

    static void failWithTheLongestDelay() {
        Checks.sentence("7: it is open, due so many units from now on");
        LeaseQueue x = withOneLeased();
        Checks.isTrue("fail", x.fail(7, 1, 1000));
        Checks.same("due", 1002, x.about(1, DUE));
        x.pass(999);
        Checks.same("a unit before", NONE, x.take(0, 7, 1));
        x.pass(1);
        Checks.same("when it is due", 1, x.take(0, 7, 1));
    }

    static void failWithOneTryLeft() {
        Checks.sentence("7: or aside (due as it was), if its tries are as many as its queue's");
        LeaseQueue x = withTries(2, 3);
        Checks.isTrue("fail", x.fail(0, 1, 50));
        Checks.same("one less than its queue's: open", OPEN, x.about(1, STATE));
        Checks.same("due from now on", 52, x.about(1, DUE));
        Checks.same("tries", 2, x.about(1, TRIES));
    }

    static void failWithNoTryLeft() {
        Checks.sentence("7: or aside (due as it was), if its tries are as many as its queue's");
        LeaseQueue x = withTries(3, 3);
        Checks.isTrue("fail", x.fail(0, 1, 50));
        Checks.same("as many as its queue's: aside", ASIDE, x.about(1, STATE));
        Checks.same("due as it was", 2, x.about(1, DUE));
        Checks.same("consumer", NONE, x.about(1, CONSUMER));
        Checks.same("until", NONE, x.about(1, UNTIL));
        Checks.same("tries", 3, x.about(1, TRIES));
        Checks.same("it is not taken", NONE, x.take(0, 0, 1));
        Checks.isFalse("it is on lease no more", x.fail(0, 1, 0));
    }

    static void failWithMoreTriesThanTheQueue() {
        Checks.sentence("7: or aside (due as it was), if its tries are as many as its queue's");
        LeaseQueue x = withTries(2, 3);
        x.tries(0, 1);
        Checks.isTrue("fail", x.fail(0, 1, 50));
        Checks.same("more than its queue's: aside", ASIDE, x.about(1, STATE));
        Checks.same("due as it was", 2, x.about(1, DUE));
    }

    static void failByItsOwnQueuesTries() {
        Checks.sentence("7: if its tries are as many as its queue's");
        for (int queue = 0; queue < 4; queue++) {
            LeaseQueue x = new LeaseQueue();
            x.tries(queue, 1);
            for (int other = 0; other < 4; other++) {
                Samples.pushPlain(x, other);
                x.take(other, other, 5);
                x.fail(other, other + 1, 0);
                Checks.same("state", other == queue ? ASIDE : OPEN, x.about(other + 1, STATE));
            }
        }
    }

    static void failOfWhatItHadNot() {
        Checks.sentence("7: whether it had it on lease");
        Checks.isFalse("an open item", Samples.busy().fail(0, 1, 0));
        Checks.isFalse("an item aside", Samples.busy().fail(1, 3, 0));
        Checks.isFalse("a done item", Samples.busy().fail(1, 4, 0));
        Checks.isFalse("another consumer's, one below", Samples.busy().fail(1, 7, 0));
        Checks.isFalse("another consumer's, one above", Samples.busy().fail(3, 7, 0));
        int[][] calls = {{0, 1}, {1, 3}, {1, 4}, {1, 7}, {3, 7}};
        for (int[] call : calls) {
            String what = "fail(" + call[0] + ", " + call[1] + ", 30)";
            Checks.sameEffect(what + " with SAFE on", Samples::busy, x -> x.fail(call[0], call[1], 30),
                    LeaseQueue::write);
            Checks.changesNothing(what + " with SAFE off", EdgesOfLeasesTest::busyNotSafe,
                    x -> x.fail(call[0], call[1], 30));
        }
        LeaseQueue x = withOneLeased();
        x.pass(10);
        Checks.isFalse("at the lease's end", x.fail(7, 1, 30));
        Checks.same("due as it was", 2, x.about(1, DUE));
    }

    static void failRefusesWrongDelays() {
        Checks.sentence("7: IllegalArgumentException: also if delay is not 0 .. 1000.");
        Checks.onlyWithin("delay", 0, 1000, (x, n) -> x.fail(2, 7, n));
        Checks.refusedAndChangesNothing("delay 1001 of what it has not", Samples::busy, x -> x.fail(0, 1, 1001));
    }

    static void failRefusesWrongConsumers() {
        Checks.sentence("7: IllegalArgumentException: there is no such .. consumer");
        Checks.onlyWithin("consumer", 0, 7, (x, n) -> x.fail(n, 1, 0));
        LeaseQueue x = Samples.withItems(2);
        x.take(0, 0, 5);
        x.take(0, 7, 5);
        Checks.isTrue("the first consumer", x.fail(0, 1, 0));
        Checks.isTrue("the last consumer", x.fail(7, 2, 0));
    }

    static void failRefusesItemsThatAreNotThere() {
        Checks.sentence("7: IllegalArgumentException: there is no such .. item");
        Checks.onlyWithin("item", 1, 7, (x, n) -> x.fail(0, n, 0));
    }

    // ---- promise 8

    static void extendForOneUnit() {
        Checks.sentence("8: A lease goes on until so many units from now");
        LeaseQueue x = withOneLeased();
        x.pass(9);
        Checks.isTrue("extend in the lease's last unit", x.extend(7, 1, 1));
        Checks.same("until", 12, x.about(1, UNTIL));
        Checks.same("a unit before", LEASED, x.about(1, STATE));
        Checks.same("its end", 1, x.pass(1));
        Checks.same("state", OPEN, x.about(1, STATE));
    }

    static void extendForTheLongest() {
        Checks.sentence("8: A lease goes on until so many units from now");
        LeaseQueue x = withOneLeased();
        x.pass(9);
        Checks.isTrue("extend", x.extend(7, 1, 1000));
        Checks.same("until", 1011, x.about(1, UNTIL));
        Checks.same("a unit before", 0, x.pass(999));
        Checks.same("its end", 1, x.pass(1));
    }

    static void extendMayShorten() {
        Checks.sentence("8: A lease goes on until so many units from now");
        LeaseQueue x = withOneLeased();
        Checks.isTrue("extend", x.extend(7, 1, 1));
        Checks.same("until", 3, x.about(1, UNTIL));
        Checks.same("its end", 1, x.pass(1));
    }

    static void extendChangesUntilAlone() {
        Checks.sentence("8: A lease goes on until so many units from now");
        Checks.sameEffect("extend and extend back", Samples::busy, x -> {
            x.extend(2, 7, 900);
            x.extend(2, 7, 20);
        }, x -> { });
        LeaseQueue x = Samples.busy();
        x.extend(2, 7, 900);
        Checks.same("until", 908, x.about(7, UNTIL));
        Checks.same("another lease's until", 18, x.about(2, UNTIL));
        Checks.same("tries", 1, x.about(7, TRIES));
    }

    static void extendOfWhatItHadNot() {
        Checks.sentence("8: whether the consumer had it");
        Checks.isFalse("an open item", Samples.busy().extend(0, 1, 5));
        Checks.isFalse("an item aside", Samples.busy().extend(1, 3, 5));
        Checks.isFalse("a done item", Samples.busy().extend(1, 4, 5));
        Checks.isFalse("another consumer's, one below", Samples.busy().extend(1, 7, 5));
        Checks.isFalse("another consumer's, one above", Samples.busy().extend(3, 7, 5));
        int[][] calls = {{0, 1}, {1, 3}, {1, 4}, {1, 7}, {3, 7}};
        for (int[] call : calls) {
            Checks.changesNothing("extend(" + call[0] + ", " + call[1] + ", 5)", Samples::busy,
                    x -> x.extend(call[0], call[1], 5));
        }
        LeaseQueue x = withOneLeased();
        x.pass(10);
        Checks.isFalse("at the lease's end", x.extend(7, 1, 5));
        Checks.same("until", NONE, x.about(1, UNTIL));
    }

    static void extendRefusesWrongLeases() {
        Checks.sentence("8: IllegalArgumentException: also if lease is not 1 .. 1000.");
        Checks.onlyWithin("lease", 1, 1000, (x, n) -> x.extend(2, 7, n));
        Checks.refusedAndChangesNothing("lease 0 of what it has not", Samples::busy, x -> x.extend(0, 1, 0));
    }

    static void extendRefusesWrongConsumers() {
        Checks.sentence("8: IllegalArgumentException: there is no such .. consumer");
        Checks.onlyWithin("consumer", 0, 7, (x, n) -> x.extend(n, 1, 5));
        LeaseQueue x = Samples.withItems(2);
        x.take(0, 0, 5);
        x.take(0, 7, 5);
        Checks.isTrue("the first consumer", x.extend(0, 1, 9));
        Checks.isTrue("the last consumer", x.extend(7, 2, 9));
    }

    static void extendRefusesItemsThatAreNotThere() {
        Checks.sentence("8: IllegalArgumentException: there is no such .. item");
        Checks.onlyWithin("item", 1, 7, (x, n) -> x.extend(0, n, 5));
    }

    // ---- promise 9

    static void chanceOfNone() {
        Checks.sentence("9: how many");
        Checks.same("of a new object", 0, new LeaseQueue().chance(0));
        Checks.changesNothing("chance of a new object", LeaseQueue::new, x -> x.chance(3));
        Checks.same("none is aside", 0, Samples.busy().chance(0));
        Checks.sameEffect("chance of none with SAFE on", Samples::busy, x -> x.chance(0), LeaseQueue::write);
        Checks.changesNothing("chance of none with SAFE off", EdgesOfLeasesTest::busyNotSafe, x -> x.chance(0));
    }

    static void chanceOfAll() {
        Checks.sentence("9: All that is aside in a queue gets another chance");
        LeaseQueue x = withAsides();
        int before = x.total(RECORDS);
        Checks.same("chance", 3, x.chance(0));
        Checks.same("a record for each", before + 3, x.total(RECORDS));
        Checks.same("none is aside", 0, x.count(0, ASIDE));
        Checks.same("open", 4, x.count(0, OPEN));
        Checks.same("leased stays", 1, x.count(0, LEASED));
        Checks.same("done stays", 1, x.count(0, DONE));
        Checks.same("another queue's stays aside", 1, x.count(1, ASIDE));
        Checks.same("chance again", 0, x.chance(0));
        Checks.same("the other queue's chance", 1, x.chance(1));
    }

    static void chanceOpensDueNowWithNoTries() {
        Checks.sentence("9: open, due now, no tries");
        LeaseQueue x = withAsides();
        x.pass(6);
        x.chance(0);
        for (int item = 1; item <= 3; item++) {
            Checks.same("state", OPEN, x.about(item, STATE));
            Checks.same("due now", 6, x.about(item, DUE));
            Checks.same("no tries", 0, x.about(item, TRIES));
            Checks.same("consumer", NONE, x.about(item, CONSUMER));
            Checks.same("until", NONE, x.about(item, UNTIL));
        }
        Checks.same("a leased item's tries stay", 1, x.about(5, TRIES));
        Checks.same("an open item's due time stays", 900, x.about(6, DUE));
        Checks.same("it is ready at once", 1, x.take(0, 4, 5));
    }

    static void chanceLetsAllTriesBegin() {
        Checks.sentence("9: no tries");
        LeaseQueue x = new LeaseQueue();
        x.tries(0, 2);
        Samples.pushPlain(x, 0);
        for (int round = 0; round < 3; round++) {
            for (int i = 1; i <= 2; i++) {
                Checks.same("take", 1, x.take(0, 0, 1));
                Checks.same("tries", i, x.about(1, TRIES));
                x.pass(1);
            }
            Checks.same("state", ASIDE, x.about(1, STATE));
            Checks.same("chance", 1, x.chance(0));
        }
    }

    static void chanceRefusesWrongQueues() {
        Checks.sentence("9: IllegalArgumentException: there is no such queue");
        Checks.onlyWithin("queue", 0, 3, LeaseQueue::chance);
        LeaseQueue x = new LeaseQueue();
        for (int queue = 0; queue < 4; queue += 3) {
            x.tries(queue, 1);
            int item = Samples.pushPlain(x, queue);
            x.take(queue, 0, 1);
            x.fail(0, item, 0);
            Checks.same("chance", 1, x.chance(queue));
        }
    }

    // ---- promise 10

    static void passOfNoTime() {
        Checks.sentence("10: Time passes: how many leases ended.");
        Checks.changesNothing("pass(0)", Samples::busy, x -> x.pass(0));
        LeaseQueue x = withOneLeased();
        Checks.same("pass(0)", 0, x.pass(0));
        Checks.same("TIME", 2, x.total(TIME));
    }

    static void passOfTheMostTime() {
        Checks.sentence("10: Time passes: how many leases ended.");
        LeaseQueue x = withOneLeased();
        Checks.same("pass(2000)", 1, x.pass(2000));
        Checks.same("TIME", 2002, x.total(TIME));
        Checks.same("pass(2000) again", 0, x.pass(2000));
        Checks.same("TIME", 4002, x.total(TIME));
    }

    static void passToAndBeforeTheEnd() {
        Checks.sentence("10: An item whose time until is not above TIME any more comes back");
        LeaseQueue x = withOneLeased();
        Checks.same("a unit before", 0, x.pass(9));
        Checks.same("state", LEASED, x.about(1, STATE));
        Checks.same("consumer", 7, x.about(1, CONSUMER));
        Checks.same("until", 12, x.about(1, UNTIL));
        Checks.same("to the end", 1, x.pass(1));
        Checks.same("state", OPEN, x.about(1, STATE));
        Checks.same("consumer", NONE, x.about(1, CONSUMER));
        Checks.same("until", NONE, x.about(1, UNTIL));
        Checks.same("a unit behind", 0, x.pass(1));
        LeaseQueue y = withOneLeased();
        Checks.same("beyond the end", 1, y.pass(11));
    }

    static void passEndsManyAtOnce() {
        Checks.sentence("10: how many leases ended");
        LeaseQueue x = new LeaseQueue();
        for (int queue = 0; queue < 4; queue++) {
            Samples.pushMany(x, queue, 2);
            x.take(queue, queue, 5 + queue);
            x.take(queue, queue + 4, 5 + queue);
        }
        Checks.same("none", 0, x.pass(4));
        Checks.same("those of queue 0", 2, x.pass(1));
        Checks.same("those of queues 1 and 2", 4, x.pass(2));
        Checks.same("records", 8 + 8 + 6, x.total(RECORDS));
        Checks.same("still leased", 2, x.count(3, LEASED));
        Checks.same("all that is left", 2, x.pass(2000));
        Checks.same("none is left", 0, x.pass(2000));
    }

    static void passWithOneTryLeft() {
        Checks.sentence("10: it is open (due as it was)");
        LeaseQueue x = withTries(2, 3);
        Checks.same("pass", 1, x.pass(10));
        Checks.same("one less than its queue's: open", OPEN, x.about(1, STATE));
        Checks.same("due as it was", 2, x.about(1, DUE));
        Checks.same("tries", 2, x.about(1, TRIES));
    }

    static void passWithNoTryLeft() {
        Checks.sentence("10: or aside, if its tries are as many as its queue's");
        LeaseQueue x = withTries(3, 3);
        Checks.same("pass", 1, x.pass(10));
        Checks.same("as many as its queue's: aside", ASIDE, x.about(1, STATE));
        Checks.same("due as it was", 2, x.about(1, DUE));
        Checks.same("tries", 3, x.about(1, TRIES));
        Checks.same("consumer", NONE, x.about(1, CONSUMER));
        Checks.same("until", NONE, x.about(1, UNTIL));
        LeaseQueue y = withTries(2, 3);
        y.tries(0, 1);
        Checks.same("pass", 1, y.pass(10));
        Checks.same("more than its queue's: aside", ASIDE, y.about(1, STATE));
    }

    static void passRefusesWrongTimes() {
        Checks.sentence("10: IllegalArgumentException: n is not 0 .. 2000.");
        Checks.onlyWithin("n", 0, 2000, LeaseQueue::pass);
    }

    /** Item 1, due at 2, leased to consumer 7 at 2 until 12. */
    private static LeaseQueue withOneLeased() {
        LeaseQueue x = new LeaseQueue();
        x.push(0, 5, 2, 0, 0);
        x.pass(2);
        x.take(0, 7, 10);
        return x;
    }

    /** Item 1, due at 2, leased to consumer 0 at 2 for 10 units, with so many tries in all. */
    private static LeaseQueue withTries(int its, int queues) {
        LeaseQueue x = new LeaseQueue();
        x.tries(0, queues);
        x.push(0, 5, 2, 0, 0);
        x.pass(2);
        for (int i = 1; i < its; i++) {
            x.take(0, 0, 10);
            x.fail(0, 1, 0);
        }
        x.take(0, 0, 10);
        return x;
    }

    /** Queue 0: 1 .. 3 aside, 4 done, 5 leased, 6 open, due at 900. Queue 1: 7 aside. */
    private static LeaseQueue withAsides() {
        LeaseQueue x = new LeaseQueue();
        x.tries(0, 1);
        x.tries(1, 1);
        Samples.pushMany(x, 0, 5);
        x.push(0, 5, 900, 0, 0);
        Samples.pushPlain(x, 1);
        for (int item = 1; item <= 5; item++) {
            x.take(0, item, 50);
        }
        x.take(1, 0, 50);
        x.fail(1, 1, 0);
        x.fail(2, 2, 0);
        x.fail(3, 3, 0);
        x.done(4, 4);
        x.fail(0, 7, 0);
        return x;
    }

    private static LeaseQueue busyNotSafe() {
        LeaseQueue x = Samples.busy();
        x.safe(false);
        return x;
    }
}
