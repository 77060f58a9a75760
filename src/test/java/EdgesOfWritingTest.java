import java.util.function.Consumer;

/**
 * Promises 11 to 13, write, crash, safe, and the terms WRITTEN, SAFE and THE LOG: a test for each
 * sentence that names a boundary case.
 */
public final class EdgesOfWritingTest implements Names {
    private EdgesOfWritingTest() {
    }

    public static void main(String[] args) {
        Checks.runAll(EdgesOfWritingTest.class);
    }

    // ---- promise 11

    static void writeOfNothing() {
        Checks.sentence("11: It is written: how many records the log has.");
        Checks.same("of a new object", 0, new LeaseQueue().write());
        Checks.changesNothing("write of a new object", LeaseQueue::new, LeaseQueue::write);
        LeaseQueue x = Samples.withItems(3);
        Checks.same("of what is written", 3, x.write());
        Checks.changesNothing("write of what is written", () -> Samples.withItems(3), LeaseQueue::write);
    }

    static void writeAnswersWhatIsLeftOfTheLog() {
        Checks.sentence("11: how many records the log has");
        Checks.same("40 records", 40, withRecords(40).write());
        Checks.same("41 records, compacted", 1, withRecords(41).write());
        LeaseQueue x = withRecords(41);
        x.write();
        Checks.same("written again", 1, x.write());
    }

    static void writeWithSafeOnOrOff() {
        Checks.sentence("11: It is written");
        for (boolean on : new boolean[] {true, false}) {
            LeaseQueue x = Samples.withItems(1);
            x.safe(on);
            x.take(0, 0, 5);
            Checks.same("write", 2, x.write());
            x.crash();
            Checks.same("tries", 1, x.about(1, TRIES));
            Checks.same("records", 2, x.total(RECORDS));
        }
    }

    // ---- promise 12

    static void crashAnswersHowManyItems() {
        Checks.sentence("12: CRASHING: how many items there are.");
        Checks.same("of a new object", 0, new LeaseQueue().crash());
        LeaseQueue x = Samples.withItems(2);
        x.safe(false);
        Samples.pushMany(x, 0, 3);
        Checks.same("those that are written", 2, x.crash());
        Checks.same("again", 2, x.crash());
        Checks.same("items", 2, x.total(ITEMS));
        Checks.same("all 400", 400, Samples.full().crash());
    }

    static void crashIsCounted() {
        Checks.sentence("12: CRASHING");
        LeaseQueue x = new LeaseQueue();
        for (int i = 0; i < 3; i++) {
            Checks.same("crashes", i, x.total(CRASHES));
            x.crash();
        }
        Checks.same("crashes", 3, x.total(CRASHES));
    }

    static void crashBehindWriteChangesNoItem() {
        Checks.sentence("12: CRASHING brings that back");
        LeaseQueue x = withAllStates();
        x.write();
        x.crash();
        isAsInAllStates(x);
        x.crash();
        isAsInAllStates(x);
        Checks.same("records", 9, x.total(RECORDS));
    }

    // ---- promise 13

    static void safeAnswersWhetherItWasOn() {
        Checks.sentence("13: SAFE is on or off: whether it was on.");
        LeaseQueue x = new LeaseQueue();
        Checks.isTrue("at first", x.safe(true));
        Checks.isTrue("on, told to be on", x.safe(false));
        Checks.isFalse("off, told to be off", x.safe(false));
        Checks.isFalse("off again", x.safe(true));
        Checks.isTrue("on again", x.safe(true));
    }

    static void safeDoesNotWriteByItself() {
        Checks.sentence("13: SAFE is on or off");
        Checks.changesNothing("on, as it was", Samples::busy, x -> x.safe(true));
        Checks.changesNothing("off and on again", Samples::busy, x -> {
            x.safe(false);
            x.safe(true);
        });
    }

    static void safeStaysThroughACrash() {
        Checks.sentence("13: SAFE is on or off");
        LeaseQueue x = new LeaseQueue();
        x.crash();
        Checks.isTrue("on", x.safe(false));
        x.crash();
        Checks.isFalse("off", x.safe(false));
        x.write();
        Checks.isFalse("off behind write()", x.safe(true));
    }

    // ---- terms: WRITTEN

    static void writtenIsWhetherItemsAreThere() {
        Checks.sentence("WRITTEN is .. of all items whether they are there .. and the next number");
        LeaseQueue x = Samples.withItems(1);
        x.safe(false);
        Samples.pushMany(x, 1, 2);
        x.crash();
        Checks.same("the last that is there", 0, x.about(1, QUEUE));
        Checks.refused("the first that is gone", () -> x.about(2, QUEUE));
        Checks.same("its queue is empty", 0, x.count(1, OPEN));
        Checks.same("the next number", 2, x.push(2, 4, 3, 2, 1));
        Checks.same("the one behind it", 3, Samples.pushPlain(x, 2));
    }

    static void writtenIsAllToldOfItems() {
        Checks.sentence("WRITTEN is .. all told above of them");
        LeaseQueue x = withAllStates();
        x.write();
        x.take(0, 3, 40);
        x.fail(3, 1, 70);
        x.take(0, 3, 40);
        x.done(3, 2);
        x.chance(1);
        x.take(1, 3, 40);
        x.push(0, 5, 0, 0, 0);
        x.crash();
        isAsInAllStates(x);
        Checks.same("records", 9, x.total(RECORDS));
    }

    static void writtenIsTheNewestItem() {
        Checks.sentence("WRITTEN is .. all told above of them");
        LeaseQueue x = Samples.withItems(2);
        x.tries(1, 1);
        x.push(1, 5, 0, 0, 0);
        x.take(1, 0, 5);
        x.fail(0, 3, 0);
        x.crash();
        Checks.same("aside", ASIDE, x.about(3, STATE));
        Checks.same("tries", 1, x.about(3, TRIES));
        x.pass(4);
        x.chance(1);
        x.crash();
        Checks.same("open", OPEN, x.about(3, STATE));
        Checks.same("due", 4, x.about(3, DUE));
        x.take(1, 0, 5);
        x.done(0, 3);
        x.crash();
        Checks.same("done", DONE, x.about(3, STATE));
    }

    static void writtenIsTheLastOfFourHundred() {
        Checks.sentence("WRITTEN is .. all told above of them");
        LeaseQueue x = Samples.full();
        x.pass(3);
        x.take(1, 0, 5);
        x.fail(0, 400, 6);
        x.crash();
        int[] due = {1, 5, 9, 0, 49, OPEN, NONE, NONE, 1, 0};
        for (int what = QUEUE; what <= WAITS; what++) {
            Checks.same("about(400, " + what + ")", due[what], x.about(400, what));
        }
    }

    static void aNewItemHasNothingOfOneThatIsGone() {
        Checks.sentence("WRITTEN is .. of all items whether they are there");
        LeaseQueue x = Samples.withItems(1);
        x.safe(false);
        x.await(1);
        x.push(3, 9, 5, 77, 6);
        x.take(0, 0, 5);
        x.done(0, 1);
        x.pass(5);
        x.take(3, 0, 20);
        x.crash();
        Checks.same("push", 2, x.push(1, 2, 0, 78, 0));
        int[] due = {1, 2, 5, 78, 0, OPEN, NONE, NONE, 0, 0};
        for (int what = QUEUE; what <= WAITS; what++) {
            Checks.same("about(2, " + what + ")", due[what], x.about(2, what));
        }
    }

    static void leasedItemsAreOpenThen() {
        Checks.sentence("but LEASED items are open then");
        LeaseQueue x = Samples.withItems(2);
        x.tries(0, 1);
        x.take(0, 6, 9);
        x.take(0, 6, 9);
        x.write();
        x.crash();
        for (int item = 1; item <= 2; item++) {
            Checks.same("open, though its tries are as many as its queue's", OPEN, x.about(item, STATE));
            Checks.same("consumer", NONE, x.about(item, CONSUMER));
            Checks.same("until", NONE, x.about(item, UNTIL));
            Checks.same("tries as written", 1, x.about(item, TRIES));
        }
        Checks.same("no record of it", 4, x.total(RECORDS));
        Checks.same("nothing ends later", 0, x.pass(9));
        Checks.isFalse("its consumer has it no more", x.done(6, 1));
        Checks.same("it is ready", 1, x.take(0, 0, 9));
    }

    static void leasedOnTheLastTryIsOpenThen() {
        Checks.sentence("but LEASED items are open then");
        for (int many = 1; many <= 3; many++) {
            LeaseQueue x = Samples.withItems(1);
            for (int i = 1; i < many; i++) {
                x.take(0, 0, 9);
                x.fail(0, 1, 0);
            }
            x.take(0, 0, 9);
            x.write();
            x.crash();
            Checks.same("state on try " + many, OPEN, x.about(1, STATE));
            Checks.same("tries", many, x.about(1, TRIES));
            Checks.same("take", 1, x.take(0, 0, 9));
            Checks.same("tries", many + 1, x.about(1, TRIES));
            x.fail(0, 1, 0);
            Checks.same("state behind that", many < 2 ? OPEN : ASIDE, x.about(1, STATE));
        }
    }

    static void leasedSinceItWasWrittenIsAsWritten() {
        Checks.sentence("CRASHING brings that back");
        LeaseQueue x = Samples.withItems(1);
        x.take(0, 0, 9);
        x.crash();
        Checks.same("state", OPEN, x.about(1, STATE));
        Checks.same("tries", 0, x.about(1, TRIES));
    }

    static void doneSinceItWasWrittenIsLeasedAsWrittenAndSoOpen() {
        Checks.sentence("but LEASED items are open then");
        LeaseQueue x = Samples.withItems(1);
        x.take(0, 0, 9);
        x.write();
        x.safe(false);
        Checks.isTrue("done", x.done(0, 1));
        x.crash();
        Checks.same("state", OPEN, x.about(1, STATE));
        Checks.same("tries", 1, x.about(1, TRIES));
    }

    static void timeLimitsRatesAndTriesStay() {
        Checks.sentence("(TIME, limits, rates, tries of queues, what was taken when stay as they are.)");
        LeaseQueue x = Samples.withItems(3);
        x.safe(false);
        x.pass(2000);
        x.limit(0, 20);
        x.limit(7, 0);
        x.tries(0, 20);
        x.tries(3, 1);
        x.rate(0, 2, 1000);
        x.take(0, 0, 1);
        x.take(0, 0, 1);
        x.crash();
        Checks.same("TIME", 2000, x.total(TIME));
        Checks.same("the rate and what was taken when", 1000, x.total(RATE_OF_QUEUE_0));
        Checks.same("take", NONE, x.take(0, 0, 1));
        Checks.same("a limit", 20, x.limit(0, 1));
        Checks.same("another limit", 0, x.limit(7, 1));
        Checks.same("a queue's tries", 20, x.tries(0, 1));
        Checks.same("another queue's tries", 1, x.tries(3, 2));
        x.pass(999);
        Checks.same("in the last unit", 1, x.total(RATE_OF_QUEUE_0));
        x.pass(1);
        Checks.same("take", 1, x.take(0, 0, 1));
    }

    // ---- terms: SAFE

    static void safeWritesBehindEachOfThese() {
        Checks.sentence("With SAFE on (as at first) it is written behind each push, done, fail, chance that throws"
                + " nothing (also if it answers 0, false or an older item)");
        isWritten("push", true, x -> x.push(3, 5, 0, 0, 0));
        isWritten("push of an older item", true, x -> x.push(0, 5, 0, 0, 7));
        isWritten("done", true, x -> x.done(0, 2));
        isWritten("done that answers false", true, x -> x.done(0, 7));
        isWritten("fail", true, x -> x.fail(0, 2, 0));
        isWritten("fail that answers false", true, x -> x.fail(0, 7, 0));
        isWritten("chance", true, x -> x.chance(1));
        isWritten("chance that answers 0", true, x -> x.chance(2));
    }

    static void safeWritesBehindTimeByWhichSomethingComesBack() {
        Checks.sentence("and each passing of time by which something comes back");
        isWritten("pass of nothing", false, x -> x.pass(0));
        isWritten("pass by which nothing comes back", false, x -> x.pass(9));
        isWritten("pass by which one comes back", true, x -> x.pass(10));
        isWritten("pass by which all come back", true, x -> x.pass(2000));
    }

    static void safeWritesBehindNothingElse() {
        Checks.sentence("otherwise by write() alone");
        isWritten("write", true, LeaseQueue::write);
        isWritten("await", false, x -> x.await(2));
        isWritten("take of none", false, x -> x.take(2, 3, 5));
        isWritten("take", false, x -> {
            x.rate(0, 0, 1);
            x.take(0, 3, 5);
        });
        isWritten("takeAny", false, x -> {
            x.rate(0, 0, 1);
            x.takeAny(3, 5);
        });
        isWritten("extend", false, x -> x.extend(2, 7, 5));
        isWritten("safe", false, x -> x.safe(true));
        isWritten("limit", false, x -> x.limit(0, 5));
        isWritten("rate", false, x -> x.rate(0, 5, 5));
        isWritten("tries", false, x -> x.tries(0, 5));
        isWritten("questions", false, Samples::seenOf);
    }

    static void safeWritesBehindNoCallThatThrows() {
        Checks.sentence("push, done, fail, chance that throws nothing");
        isWritten("push", false, x -> Checks.refused("push", () -> x.push(4, 5, 0, 0, 0)));
        isWritten("done", false, x -> Checks.refused("done", () -> x.done(0, 8)));
        isWritten("fail", false, x -> Checks.refused("fail", () -> x.fail(0, 8, 0)));
        isWritten("chance", false, x -> Checks.refused("chance", () -> x.chance(4)));
        isWritten("pass", false, x -> Checks.refused("pass", () -> x.pass(2001)));
    }

    static void withSafeOffOnlyWriteWrites() {
        Checks.sentence("otherwise by write() alone");
        isWrittenNotSafe("write", true, LeaseQueue::write);
        isWrittenNotSafe("push", false, x -> x.push(3, 5, 0, 0, 0));
        isWrittenNotSafe("push of an older item", false, x -> x.push(0, 5, 0, 0, 7));
        isWrittenNotSafe("done", false, x -> x.done(0, 2));
        isWrittenNotSafe("done that answers false", false, x -> x.done(0, 7));
        isWrittenNotSafe("fail", false, x -> x.fail(0, 2, 0));
        isWrittenNotSafe("fail that answers false", false, x -> x.fail(0, 7, 0));
        isWrittenNotSafe("chance", false, x -> x.chance(1));
        isWrittenNotSafe("chance that answers 0", false, x -> x.chance(2));
        isWrittenNotSafe("pass by which something comes back", false, x -> x.pass(2000));
    }

    // ---- terms: THE LOG

    static void oneRecordForEachOfThese() {
        Checks.sentence("THE LOG has one RECORD for each push, take, done, fail, chance of an item, and for each item"
                + " that comes back by time");
        makesRecords("push", 1, x -> x.push(3, 5, 0, 0, 0));
        makesRecords("take", 1, x -> {
            x.rate(0, 0, 1);
            x.take(0, 3, 5);
        });
        makesRecords("takeAny", 1, x -> {
            x.rate(0, 0, 1);
            x.takeAny(3, 5);
        });
        makesRecords("done", 1, x -> x.done(0, 2));
        makesRecords("fail", 1, x -> x.fail(0, 2, 0));
        makesRecords("fail that puts aside", 1, x -> {
            x.tries(0, 1);
            x.fail(0, 2, 0);
        });
        makesRecords("chance of one", 1, x -> x.chance(1));
        makesRecords("one that comes back by time", 1, x -> x.pass(10));
        makesRecords("two that come back by time", 2, x -> x.pass(2000));
    }

    static void noRecordForOthers() {
        Checks.sentence("THE LOG has one RECORD for each push, take, done, fail, chance of an item");
        makesRecords("push of an older item", 0, x -> x.push(0, 5, 0, 0, 7));
        makesRecords("await", 0, x -> x.await(2));
        makesRecords("take of none", 0, x -> x.take(2, 3, 5));
        makesRecords("takeAny of none", 0, x -> x.takeAny(3, 5));
        makesRecords("done that answers false", 0, x -> x.done(0, 7));
        makesRecords("fail that answers false", 0, x -> x.fail(0, 7, 0));
        makesRecords("extend", 0, x -> x.extend(2, 7, 5));
        makesRecords("chance of none", 0, x -> x.chance(2));
        makesRecords("pass by which nothing comes back", 0, x -> x.pass(9));
        makesRecords("write", 0, LeaseQueue::write);
        makesRecords("a call that throws", 0, x -> Checks.refused("push", () -> x.push(0, 5, 0, 0, -1)));
    }

    static void recordsAreCountedAtOnceAndACrashTakesTheLatest() {
        Checks.sentence("they are counted at once, and a crash takes those that came behind the latest writing");
        LeaseQueue x = Samples.withItems(2);
        x.take(0, 0, 5);
        Checks.same("counted at once", 3, x.total(RECORDS));
        x.crash();
        Checks.same("the crash takes one", 2, x.total(RECORDS));
        x.crash();
        Checks.same("there is none to take", 2, x.total(RECORDS));
        x.safe(false);
        Samples.pushPlain(x, 0);
        x.take(0, 0, 5);
        x.done(0, 1);
        Checks.same("counted at once", 5, x.total(RECORDS));
        x.crash();
        Checks.same("the crash takes three", 2, x.total(RECORDS));
    }

    static void fortyRecordsAreNotCompacted() {
        Checks.sentence("there are more records than 40");
        compacted("40 records, one item", 40, 0, withRecords(40));
        compacted("41 records, one item", 1, 1, withRecords(41));
        compacted("40 records, all done", 40, 0, withAllDone(40));
        compacted("41 records, all done", 0, 1, withAllDone(41));
    }

    static void twiceAsManyRecordsAreNotCompacted() {
        Checks.sentence("and twice as many as items that are not done");
        compacted("40 records, 20 items", 40, 0, withRecords(20, 40));
        compacted("41 records, 20 items", 20, 1, withRecords(20, 41));
        compacted("41 records, 21 items", 41, 0, withRecords(21, 41));
        compacted("42 records, 21 items", 42, 0, withRecords(21, 42));
        compacted("43 records, 21 items", 21, 1, withRecords(21, 43));
        compacted("80 records, 40 items", 80, 0, withRecords(40, 80));
        compacted("81 records, 40 items", 40, 1, withRecords(40, 81));
    }

    static void leasedAndAsideItemsAreNotDone() {
        Checks.sentence("items that are not done");
        LeaseQueue x = new LeaseQueue();
        x.safe(false);
        Samples.pushMany(x, 0, 14);
        for (int item = 1; item <= 14; item++) {
            x.take(0, item % 8, 5);
        }
        addDoneItems(x, 5);
        Checks.same("all but those done are leased", 14, x.count(0, LEASED));
        compacted("with 14 items leased", 14, 1, x);
        LeaseQueue y = new LeaseQueue();
        y.tries(0, 1);
        y.safe(false);
        Samples.pushMany(y, 0, 14);
        for (int item = 1; item <= 14; item++) {
            y.take(0, item % 8, 5);
            y.fail(item % 8, item, 0);
        }
        Checks.same("all are aside", 14, y.count(0, ASIDE));
        compacted("with 14 items aside", 14, 1, y);
    }

    static void doneItemsAreNotCounted() {
        Checks.sentence("it is COMPACTED: as many as these");
        LeaseQueue x = new LeaseQueue();
        x.safe(false);
        Samples.pushMany(x, 0, 21);
        for (int item = 1; item <= 10; item++) {
            x.take(0, 0, 5);
            x.done(0, item);
        }
        compacted("41 records, 10 items done, 11 not", 11, 1, x);
        Samples.pushPlain(x, 0);
        Checks.same("behind it records are counted on", 12, x.total(RECORDS));
    }

    static void compactedWheneverItIsWritten() {
        Checks.sentence("Whenever it is written");
        compactedBy("push", 2, 1, x -> x.push(3, 5, 0, 0, 0));
        compactedBy("push of an older item", 1, 1, x -> x.push(0, 5, 0, 0, 7));
        compactedBy("done", 0, 1, x -> x.done(0, 1));
        compactedBy("done that answers false", 1, 1, x -> x.done(1, 1));
        compactedBy("fail", 1, 1, x -> x.fail(0, 1, 0));
        compactedBy("fail that answers false", 1, 1, x -> x.fail(1, 1, 0));
        compactedBy("chance that answers 0", 1, 1, x -> x.chance(0));
        compactedBy("pass by which something comes back", 1, 1, x -> x.pass(1000));
        compactedBy("write", 1, 1, LeaseQueue::write);
        compactedBy("pass by which nothing comes back", 50, 0, x -> x.pass(999));
        compactedBy("extend", 50, 0, x -> x.extend(0, 1, 5));
        compactedBy("take of none", 50, 0, x -> x.take(0, 0, 5));
        compactedBy("safe", 50, 0, x -> x.safe(true));
        compactedBy("a call that throws", 50, 0, x -> Checks.refused("chance", () -> x.chance(4)));
    }

    static void compactingCountsTheRecordOfItsOwnCall() {
        Checks.sentence("there are more records than 40");
        LeaseQueue x = withRecords(39);
        x.safe(true);
        Samples.pushPlain(x, 1);
        Checks.same("push makes it 40", 40, x.total(RECORDS));
        x.push(1, 5, 0, 0, 0);
        Checks.same("push makes it 41: three items", 3, x.total(RECORDS));
        Checks.same("compactings", 1, x.total(COMPACTINGS));
    }

    static void aCrashKeepsTheCompactedLogAndTheCompactings() {
        Checks.sentence("it is COMPACTED: as many as these");
        LeaseQueue x = withRecords(41);
        x.write();
        x.crash();
        Checks.same("records", 1, x.total(RECORDS));
        Checks.same("compactings", 1, x.total(COMPACTINGS));
        LeaseQueue y = withRecords(41);
        Checks.same("a crash does not compact", 0, y.crash());
        Checks.same("records", 0, y.total(RECORDS));
        Checks.same("compactings", 0, y.total(COMPACTINGS));
    }

    // ---- helpers

    /** Item 2's and 7's takes in a busy object are not written; a crash tells whether they are now. */
    private static void isWritten(String what, boolean due, Consumer<LeaseQueue> call) {
        LeaseQueue x = Samples.busy();
        call.accept(x);
        x.crash();
        Checks.same("latest take written behind " + what, due ? 1 : 0, x.about(7, TRIES));
        Checks.isTrue("records kept behind " + what, due == x.total(RECORDS) > 11);
    }

    private static void isWrittenNotSafe(String what, boolean due, Consumer<LeaseQueue> call) {
        isWritten(what + " with SAFE off", due, x -> {
            x.safe(false);
            call.accept(x);
        });
    }

    private static void makesRecords(String what, int due, Consumer<LeaseQueue> call) {
        LeaseQueue x = Samples.busy();
        int before = x.total(RECORDS);
        call.accept(x);
        Checks.same("records of " + what, due, x.total(RECORDS) - before);
    }

    private static void compacted(String what, int records, int compactings, LeaseQueue x) {
        Checks.same("write() with " + what, records, x.write());
        Checks.same("records with " + what, records, x.total(RECORDS));
        Checks.same("compactings with " + what, compactings, x.total(COMPACTINGS));
    }

    private static void compactedBy(String what, int records, int compactings, Consumer<LeaseQueue> call) {
        LeaseQueue x = withRecords(50);
        Checks.same("it is leased until 1000", 1000, x.about(1, UNTIL));
        x.safe(true);
        call.accept(x);
        Checks.same("records behind " + what, records, x.total(RECORDS));
        Checks.same("compactings behind " + what, compactings, x.total(COMPACTINGS));
    }

    private static LeaseQueue withRecords(int records) {
        return withRecords(1, records);
    }

    /**
     * So many items in queue 0 that are not done, and so many records, nothing of it written, SAFE
     * off; the other records come from done items, three from each, and from the first item, which
     * has key 7: if one record is left over, consumer 0 has it on lease until 1000.
     */
    private static LeaseQueue withRecords(int items, int records) {
        LeaseQueue x = new LeaseQueue();
        x.safe(false);
        x.push(0, 0, 0, 0, 7);
        Samples.pushMany(x, 0, items - 1);
        addDoneItems(x, (records - items) / 3);
        int leftOver = (records - items) % 3;
        if (leftOver > 0) {
            x.take(0, 0, 1000);
        }
        if (leftOver > 1) {
            x.fail(0, 1, 0);
        }
        Checks.same("records to begin with", records, x.total(RECORDS));
        return x;
    }

    private static void addDoneItems(LeaseQueue x, int many) {
        for (int i = 0; i < many; i++) {
            int item = Samples.pushPlain(x, 3);
            x.take(3, 7, 5);
            x.done(7, item);
        }
    }

    /** So many records, all items done, nothing of it written, SAFE off; the first item fails up to two times. */
    private static LeaseQueue withAllDone(int records) {
        LeaseQueue x = new LeaseQueue();
        x.safe(false);
        Samples.pushPlain(x, 3);
        int fails = (3 - records % 3) % 3;
        for (int i = 0; i < fails; i++) {
            x.take(3, 7, 5);
            x.fail(7, 1, 0);
        }
        x.take(3, 7, 5);
        x.done(7, 1);
        addDoneItems(x, (records - 3 - 2 * fails) / 3);
        Checks.same("records to begin with", records, x.total(RECORDS));
        return x;
    }

    private static void isAsInAllStates(LeaseQueue x) {
        int[][] due = {
            {0, 1, 4, 91, 5, OPEN, NONE, NONE, 0, 0},
            {0, 2, 6, 92, 0, OPEN, NONE, NONE, 0, 0},
            {1, 3, 4, 93, 6, ASIDE, NONE, NONE, 1, 0},
            {2, 4, 4, 94, 0, DONE, NONE, NONE, 1, 0},
            {3, 5, 9, 95, 7, OPEN, NONE, NONE, 0, 1},
        };
        Checks.same("items", due.length, x.total(ITEMS));
        for (int item = 1; item <= due.length; item++) {
            for (int what = QUEUE; what <= WAITS; what++) {
                Checks.same("about(" + item + ", " + what + ")", due[item - 1][what], x.about(item, what));
            }
        }
    }

    /** Items that are open, aside, done and waiting, none leased; nothing of it written, SAFE off. */
    private static LeaseQueue withAllStates() {
        LeaseQueue x = new LeaseQueue();
        x.safe(false);
        x.tries(1, 1);
        x.pass(4);
        x.push(0, 1, 0, 91, 5);
        x.push(0, 2, 2, 92, 0);
        x.push(1, 3, 0, 93, 6);
        x.push(2, 4, 0, 94, 0);
        x.await(1);
        x.push(3, 5, 5, 95, 7);
        x.take(1, 0, 3);
        x.take(2, 0, 9);
        x.done(0, 4);
        x.pass(4);
        return x;
    }
}
