/**
 * Promises 14 to 16, limit, rate, tries, and what the terms say of them: a test for each sentence
 * that names a boundary case.
 */
public final class EdgesOfSettingsTest implements Names {
    private EdgesOfSettingsTest() {
    }

    public static void main(String[] args) {
        Checks.runAll(EdgesOfSettingsTest.class);
    }

    // ---- promise 14

    static void limitAnswersWhatItWas() {
        Checks.sentence("14: A consumer's limit: what it was.");
        LeaseQueue x = new LeaseQueue();
        for (int consumer = 0; consumer < 8; consumer++) {
            Checks.same("3 at first", 3, x.limit(consumer, 10 + consumer));
        }
        for (int consumer = 0; consumer < 8; consumer++) {
            Checks.same("each has its own", 10 + consumer, x.limit(consumer, 0));
            Checks.same("the least", 0, x.limit(consumer, 20));
            Checks.same("the most", 20, x.limit(consumer, 20));
        }
    }

    static void limitAtFirst() {
        Checks.sentence("Each consumer may have so many items on lease at a time as its LIMIT says (3 at first).");
        for (int consumer = 0; consumer < 8; consumer++) {
            hasRoomFor(3, consumer, Samples.withItems(5));
        }
    }

    static void limitOfNone() {
        Checks.sentence("Each consumer may have so many items on lease at a time as its LIMIT says");
        LeaseQueue x = Samples.withItems(5);
        x.limit(4, 0);
        hasRoomFor(0, 4, x);
        Checks.same("takeAny", NONE, x.takeAny(4, 5));
        x.limit(4, 1);
        hasRoomFor(1, 4, x);
    }

    static void limitOfTheMost() {
        Checks.sentence("Each consumer may have so many items on lease at a time as its LIMIT says");
        LeaseQueue x = Samples.withItems(23);
        x.limit(4, 20);
        hasRoomFor(20, 4, x);
        Checks.same("takeAny", NONE, x.takeAny(4, 5));
        Checks.same("another consumer", 21, x.take(0, 3, 5));
    }

    static void limitWithTheNewestItemOnLease() {
        Checks.sentence("Each consumer may have so many items on lease at a time as its LIMIT says");
        LeaseQueue x = new LeaseQueue();
        x.limit(4, 1);
        x.push(0, 9, 0, 0, 0);
        x.push(0, 8, 0, 0, 0);
        Checks.same("the newest", 2, x.take(0, 4, 5));
        Checks.same("another", NONE, x.take(0, 4, 5));
        LeaseQueue y = Samples.full();
        y.limit(4, 1);
        Checks.same("the last of 400", 400, y.take(1, 4, 5));
        Checks.same("another", NONE, y.take(0, 4, 5));
    }

    static void limitBelowWhatIsOnLease() {
        Checks.sentence("Each consumer may have so many items on lease at a time as its LIMIT says");
        LeaseQueue x = Samples.withItems(6);
        hasRoomFor(3, 4, x);
        x.limit(4, 1);
        Checks.same("its leases stay", 3, x.count(0, LEASED));
        Checks.same("three, one allowed", NONE, x.take(0, 4, 5));
        x.done(4, 1);
        Checks.same("two, one allowed", NONE, x.take(0, 4, 5));
        x.done(4, 2);
        Checks.same("one, one allowed", NONE, x.take(0, 4, 5));
        Checks.same("takeAny", NONE, x.takeAny(4, 5));
        x.done(4, 3);
        Checks.same("none, one allowed", 4, x.take(0, 4, 5));
        x.limit(4, 2);
        Checks.same("one, two allowed", 5, x.takeAny(4, 5));
    }

    static void limitRefusesWrongConsumers() {
        Checks.sentence("14: IllegalArgumentException: there is no such .. consumer");
        Checks.onlyWithin("consumer", 0, 7, (x, n) -> x.limit(n, 5));
    }

    static void limitRefusesWrongNumbers() {
        Checks.sentence("14: IllegalArgumentException: also if it is not 0 .. 20.");
        Checks.onlyWithin("most", 0, 20, (x, n) -> x.limit(2, n));
    }

    // ---- promise 15

    static void rateAtFirst() {
        Checks.sentence("Each queue has a RATE, n takes in w units (at first none)");
        for (int queue = 0; queue < 4; queue++) {
            LeaseQueue x = new LeaseQueue();
            for (int consumer = 0; consumer < 8; consumer++) {
                x.limit(consumer, 20);
            }
            takeMany(x, queue, 110);
            Checks.same("units to wait", 0, x.total(RATE_OF_QUEUE_0 + queue));
        }
    }

    static void rateOfOneTake() {
        Checks.sentence("an item is taken from it only if less than n were");
        LeaseQueue x = Samples.withItems(3);
        x.rate(0, 1, 5);
        Checks.same("none before", 1, x.take(0, 0, 9));
        Checks.same("one before", NONE, x.take(0, 0, 9));
        Checks.same("one before", NONE, x.takeAny(0, 9));
        Checks.same("units to wait", 5, x.total(RATE_OF_QUEUE_0));
    }

    static void rateOfTheMostTakes() {
        Checks.sentence("an item is taken from it only if less than n were");
        LeaseQueue x = new LeaseQueue();
        for (int consumer = 0; consumer < 8; consumer++) {
            x.limit(consumer, 20);
        }
        x.rate(2, 100, 1000);
        takeMany(x, 2, 99);
        Samples.pushMany(x, 2, 2);
        Checks.same("99 before", 0, x.total(RATE_OF_QUEUE_0 + 2));
        Checks.same("the hundredth", 100, x.take(2, 7, 1000));
        Checks.same("100 before", 1000, x.total(RATE_OF_QUEUE_0 + 2));
        Checks.same("the next", NONE, x.take(2, 7, 1000));
        x.pass(999);
        Checks.same("in the last unit", NONE, x.take(2, 7, 1000));
        Checks.same("in the last unit", 1, x.total(RATE_OF_QUEUE_0 + 2));
        Checks.same("all leases end, too", 100, x.pass(1));
        Checks.same("behind it", 1, x.take(2, 7, 1000));
    }

    static void rateInOneUnit() {
        Checks.sentence("were at times above TIME - w");
        LeaseQueue x = Samples.withItems(3);
        x.rate(0, 1, 1);
        Checks.same("take", 1, x.take(0, 0, 900));
        Checks.same("at the same time", NONE, x.take(0, 0, 900));
        Checks.same("units to wait", 1, x.total(RATE_OF_QUEUE_0));
        x.pass(0);
        Checks.same("still at the same time", NONE, x.take(0, 0, 900));
        x.pass(1);
        Checks.same("units to wait", 0, x.total(RATE_OF_QUEUE_0));
        Checks.same("a unit later", 2, x.take(0, 0, 900));
    }

    static void rateOfTakesAtOtherTimes() {
        Checks.sentence("were at times above TIME - w");
        LeaseQueue x = Samples.withItems(9);
        x.limit(0, 20);
        x.rate(0, 3, 10);
        x.take(0, 0, 900);
        x.pass(4);
        x.take(0, 0, 900);
        x.pass(3);
        x.take(0, 0, 900);
        Checks.same("at 7: takes at 0, 4, 7", 3, x.total(RATE_OF_QUEUE_0));
        x.pass(2);
        Checks.same("at 9", NONE, x.take(0, 0, 900));
        x.pass(1);
        Checks.same("at 10: takes at 4, 7", 4, x.take(0, 0, 900));
        Checks.same("at 10: takes at 4, 7, 10", 4, x.total(RATE_OF_QUEUE_0));
        x.pass(3);
        Checks.same("at 13", NONE, x.take(0, 0, 900));
        x.pass(1);
        Checks.same("at 14: takes at 7, 10", 5, x.take(0, 0, 900));
        Checks.same("at 14: takes at 7, 10, 14", 3, x.total(RATE_OF_QUEUE_0));
        x.pass(6);
        Checks.same("at 20: the take at 14 alone", 0, x.total(RATE_OF_QUEUE_0));
        Checks.same("take", 6, x.take(0, 0, 900));
        Checks.same("take", 7, x.take(0, 0, 900));
        Checks.same("at 20: takes at 14, 20, 20", NONE, x.take(0, 0, 900));
        Checks.same("at 20: takes at 14, 20, 20", 4, x.total(RATE_OF_QUEUE_0));
    }

    static void rateNone() {
        Checks.sentence("15: none for n 0");
        LeaseQueue x = Samples.withItems(3);
        x.rate(0, 1, 1000);
        x.take(0, 0, 9);
        x.rate(0, 0, 1);
        Checks.same("units to wait", 0, x.total(RATE_OF_QUEUE_0));
        Checks.same("take", 2, x.take(0, 0, 9));
        x.rate(0, 0, 1000);
        Checks.same("take", 3, x.take(0, 0, 9));
        x.rate(0, 3, 1000);
        Checks.same("what was taken without a rate counts", 1000, x.total(RATE_OF_QUEUE_0));
        x.rate(0, 4, 1000);
        Checks.same("and is not yet four", 0, x.total(RATE_OF_QUEUE_0));
    }

    /** More takes than the highest rate asks for, at several times. */
    static void rateOfTheLatestTakesOfMany() {
        Checks.sentence("were at times above TIME - w");
        LeaseQueue x = Samples.withItems(1);
        x.tries(0, 20);
        for (int i = 0; i < 130; i++) {
            Checks.same("take", 1, x.take(0, 0, 1000));
            x.fail(0, 1, 0);
            if (i % 20 == 19) {
                x.chance(0);
            }
            if (i < 60) {
                x.pass(1);
            }
        }
        // Takes at 0, 1, .. 59 and seventy at 60: the hundredth latest was at 30.
        int[][] dueOf = {{100, 31, 1}, {100, 30, 0}, {99, 31, 2}, {99, 30, 1}, {99, 29, 0}, {71, 9, 8}, {71, 1, 0},
            {70, 9, 9}, {70, 1, 1}, {1, 1, 1}, {1, 1000, 1000}, {100, 1000, 970}};
        for (int[] due : dueOf) {
            x.rate(0, due[0], due[1]);
            Checks.same(due[0] + " in " + due[1], due[2], x.total(RATE_OF_QUEUE_0));
        }
    }

    static void rateOfItsQueueAlone() {
        Checks.sentence("15: A queue's rate, n takes in w units");
        LeaseQueue x = new LeaseQueue();
        for (int queue = 0; queue < 4; queue++) {
            Samples.pushMany(x, queue, 2);
            x.rate(queue, 1, 100 + queue);
        }
        for (int queue = 0; queue < 4; queue++) {
            Checks.same("not reached by other queues' takes", 0, x.total(RATE_OF_QUEUE_0 + queue));
            Checks.same("take", 2 * queue + 1, x.take(queue, queue, 9));
            Checks.same("reached by its own", 100 + queue, x.total(RATE_OF_QUEUE_0 + queue));
        }
        x.rate(2, 2, 1);
        for (int queue = 0; queue < 4; queue++) {
            int due = queue == 2 ? 0 : 100 + queue;
            Checks.same("another rate for queue 2", due, x.total(RATE_OF_QUEUE_0 + queue));
        }
    }

    static void rateRefusesWrongQueues() {
        Checks.sentence("15: IllegalArgumentException: there is no such queue");
        Checks.onlyWithin("queue", 0, 3, (x, n) -> x.rate(n, 5, 5));
    }

    static void rateRefusesWrongTakes() {
        Checks.sentence("15: IllegalArgumentException: also if n is not 0 .. 100");
        Checks.onlyWithin("n", 0, 100, (x, n) -> x.rate(0, n, 5));
    }

    static void rateRefusesWrongUnits() {
        Checks.sentence("15: IllegalArgumentException: also if .. w not 1 .. 1000.");
        Checks.onlyWithin("w", 1, 1000, (x, n) -> x.rate(0, 5, n));
        Checks.onlyWithin("n 0 and w", 1, 1000, (x, n) -> x.rate(0, 0, n));
    }

    // ---- promise 16

    static void triesAnswersWhatTheyWere() {
        Checks.sentence("16: A queue's tries: what they were.");
        LeaseQueue x = new LeaseQueue();
        for (int queue = 0; queue < 4; queue++) {
            Checks.same("3 at first", 3, x.tries(queue, 10 + queue));
        }
        for (int queue = 0; queue < 4; queue++) {
            Checks.same("each has its own", 10 + queue, x.tries(queue, 1));
            Checks.same("the least", 1, x.tries(queue, 20));
            Checks.same("the most", 20, x.tries(queue, 20));
        }
    }

    static void triesAtFirst() {
        Checks.sentence("and a number of TRIES, 1 .. 20 (3 at first)");
        for (int queue = 0; queue < 4; queue++) {
            isAsideBehind(3, queue, new LeaseQueue());
        }
    }

    static void triesOfTheLeastAndTheMost() {
        Checks.sentence("and a number of TRIES, 1 .. 20 (3 at first)");
        for (int queue = 0; queue < 4; queue++) {
            for (int most : new int[] {1, 2, 19, 20}) {
                LeaseQueue x = new LeaseQueue();
                x.tries(queue, most);
                isAsideBehind(most, queue, x);
            }
        }
    }

    static void triesPutNothingAsideByThemselves() {
        Checks.sentence("16: A queue's tries");
        LeaseQueue x = Samples.withItems(2);
        for (int i = 0; i < 2; i++) {
            x.take(0, 0, 1);
            x.pass(1);
        }
        x.take(0, 1, 9);
        Checks.same("tries", 3, x.about(1, TRIES));
        x.tries(0, 1);
        Checks.same("leased stays leased", LEASED, x.about(1, STATE));
        x.crash();
        Checks.same("open with two tries", OPEN, x.about(1, STATE));
        Checks.same("tries", 2, x.about(1, TRIES));
        Checks.same("it is ready", 1, x.take(0, 0, 1));
        x.pass(1);
        Checks.same("aside when it comes back", ASIDE, x.about(1, STATE));
        x.tries(0, 20);
        Checks.same("aside stays aside", ASIDE, x.about(1, STATE));
    }

    static void triesLeaveOpenItemsOpen() {
        Checks.sentence("16: A queue's tries");
        LeaseQueue x = Samples.withItems(1);
        for (int i = 0; i < 2; i++) {
            x.take(0, 0, 1);
            x.pass(1);
        }
        Checks.same("tries", 2, x.about(1, TRIES));
        for (int most = 2; most >= 1; most--) {
            x.tries(0, most);
            Checks.same("open with as many tries as its queue's, or more", OPEN, x.about(1, STATE));
            Checks.same("it is ready", 1, x.count(0, READY));
            Checks.same("next", 2, x.next(0));
        }
        Checks.same("take", 1, x.take(0, 0, 1));
    }

    static void triesRefuseWrongQueues() {
        Checks.sentence("16: IllegalArgumentException: there is no such queue");
        Checks.onlyWithin("queue", 0, 3, (x, n) -> x.tries(n, 5));
    }

    static void triesRefuseWrongNumbers() {
        Checks.sentence("16: IllegalArgumentException: also if they are not 1 .. 20.");
        Checks.onlyWithin("most", 1, 20, (x, n) -> x.tries(1, n));
    }

    // ---- helpers

    /** The consumer, who has none yet, gets so many of the plain items of queue 0, and no more. */
    private static void hasRoomFor(int many, int consumer, LeaseQueue x) {
        for (int item = 1; item <= many; item++) {
            Checks.same("take " + item + " of " + many, item, x.take(0, consumer, 5));
        }
        Checks.same("take behind " + many, NONE, x.take(0, consumer, 5));
        Checks.isTrue("there is one for others", x.peek(0, 0) != NONE);
    }

    /** Pushes and takes so many items of one queue, twenty for each consumer. */
    private static void takeMany(LeaseQueue x, int queue, int many) {
        for (int i = 0; i < many; i++) {
            int item = Samples.pushPlain(x, queue);
            Checks.same("take", item, x.take(queue, i / 20, 1000));
        }
    }

    /** A new item comes back so many times; only then it is aside. */
    private static void isAsideBehind(int tries, int queue, LeaseQueue x) {
        int item = Samples.pushPlain(x, queue);
        for (int i = 1; i <= tries; i++) {
            Checks.same("it is open", OPEN, x.about(item, STATE));
            Checks.same("take", item, x.take(queue, 0, 1));
            Checks.same("tries", i, x.about(item, TRIES));
            if (i % 2 == 0) {
                x.pass(1);
            } else {
                x.fail(0, item, 0);
            }
        }
        Checks.same("it is aside", ASIDE, x.about(item, STATE));
    }
}
