import java.util.ArrayDeque;
import java.util.Random;
import java.util.function.IntSupplier;

/** Random runs of calls, the same ones each time; every answer is compared with that of PlainModel. */
public final class RandomRunsTest {
    private static final int RUNS = 3000;
    private static final int CALLS = 512;
    private static final int TOLD_BEFORE = 25;

    private final Random random;
    private final LeaseQueue program = new LeaseQueue();
    private final PlainModel model = new PlainModel();
    private final ArrayDeque<String> told = new ArrayDeque<>();
    private final String name;
    // Runs differ in how much they push, wait, fail and go wrong, so that different states are reached.
    private final int pushWeight;
    private final int keys;
    private final int crashWeight;
    private final int longest;
    private final int wrongInThousand;
    private final int queues;
    private boolean differs;

    private RandomRunsTest(int seed) {
        random = new Random(seed);
        name = "run " + seed;
        boolean full = random.nextInt(12) == 0;
        pushWeight = full ? 2500 : 5 + random.nextInt(60);
        keys = full ? 100000 : 12;
        crashWeight = random.nextInt(3);
        longest = 1 + random.nextInt(random.nextInt(4) == 0 ? 1000 : 12);
        wrongInThousand = random.nextInt(30);
        queues = 1 + random.nextInt(4);
    }

    public static void main(String[] args) {
        for (int seed = 1; seed <= RUNS && !Checks.anyWrong(); seed++) {
            new RandomRunsTest(seed).run();
        }
        Checks.end();
    }

    private void run() {
        for (int i = 0; i < CALLS && !differs; i++) {
            int kind = random.nextInt(100 + pushWeight + crashWeight);
            if (kind < 35) {
                ask();
            } else if (kind < 50) {
                takeSome();
            } else if (kind < 70) {
                endSome();
            } else if (kind < 100) {
                changeSome();
            } else if (kind < 100 + pushWeight) {
                pushSome();
            } else {
                compare("crash()", program::crash, model::crash);
            }
        }
    }

    private void pushSome() {
        if (random.nextInt(8) == 0) {
            int item = item();
            compare("await(" + item + ")", () -> program.await(item), () -> model.await(item));
            return;
        }
        int q = queue();
        int p = number(0, random.nextBoolean() ? 9 : 1);
        int delay = random.nextInt(3) == 0 ? number(0, longest) : number(0, 0);
        int body = random.nextInt();
        int key = random.nextInt(3) == 0 ? number(0, keys) : 0;
        compare("push(" + q + ", " + p + ", " + delay + ", " + body + ", " + key + ")",
                () -> program.push(q, p, delay, body, key), () -> model.push(q, p, delay, body, key));
    }

    private void takeSome() {
        int q = queue();
        int c = consumer();
        int lease = number(1, longest);
        if (random.nextBoolean()) {
            compare("take(" + q + ", " + c + ", " + lease + ")",
                    () -> program.take(q, c, lease), () -> model.take(q, c, lease));
        } else {
            compare("takeAny(" + c + ", " + lease + ")",
                    () -> program.takeAny(c, lease), () -> model.takeAny(c, lease));
        }
    }

    private void endSome() {
        int item = leasedItem();
        int holder = item >= 1 && item <= model.total(1) ? model.about(item, 6) : -1;
        int c = holder >= 0 && random.nextInt(8) != 0 ? holder : consumer();
        int n = number(1, longest);
        switch (random.nextInt(4)) {
            case 0 -> compare("done(" + c + ", " + item + ")",
                    () -> bit(program.done(c, item)), () -> bit(model.done(c, item)));
            case 1, 2 -> compare("fail(" + c + ", " + item + ", " + (n - 1) + ")",
                    () -> bit(program.fail(c, item, n - 1)), () -> bit(model.fail(c, item, n - 1)));
            default -> compare("extend(" + c + ", " + item + ", " + n + ")",
                    () -> bit(program.extend(c, item, n)), () -> bit(model.extend(c, item, n)));
        }
    }

    private void changeSome() {
        int q = queue();
        int c = consumer();
        int kind = random.nextInt(20);
        if (kind < 9) {
            int n = number(0, Math.min(2 * longest, 2000));
            compare("pass(" + n + ")", () -> program.pass(n), () -> model.pass(n));
        } else if (kind < 12) {
            compare("chance(" + q + ")", () -> program.chance(q), () -> model.chance(q));
        } else if (kind < 14) {
            compare("write()", program::write, model::write);
        } else if (kind < 16) {
            boolean on = random.nextBoolean();
            compare("safe(" + on + ")", () -> bit(program.safe(on)), () -> bit(model.safe(on)));
        } else if (kind < 17) {
            int most = number(0, 20);
            compare("limit(" + c + ", " + most + ")",
                    () -> program.limit(c, most), () -> model.limit(c, most));
        } else if (kind < 18) {
            int most = number(1, random.nextBoolean() ? 20 : 3);
            compare("tries(" + q + ", " + most + ")",
                    () -> program.tries(q, most), () -> model.tries(q, most));
        } else {
            int n = random.nextBoolean() ? 0 : number(0, random.nextInt(4) == 0 ? 100 : 4);
            int w = number(1, longest);
            compare("rate(" + q + ", " + n + ", " + w + ")",
                    () -> nothing(() -> program.rate(q, n, w)), () -> nothing(() -> model.rate(q, n, w)));
        }
    }

    private void ask() {
        int q = queue();
        int item = item();
        int kind = random.nextInt(10);
        if (kind < 5) {
            int what = number(0, 9);
            compare("about(" + item + ", " + what + ")",
                    () -> program.about(item, what), () -> model.about(item, what));
        } else if (kind < 6) {
            int state = number(0, 4);
            compare("count(" + q + ", " + state + ")",
                    () -> program.count(q, state), () -> model.count(q, state));
        } else if (kind < 8) {
            int i = random.nextInt(12) - 1;
            compare("peek(" + q + ", " + i + ")", () -> program.peek(q, i), () -> model.peek(q, i));
        } else if (kind < 9) {
            int what = number(0, 8);
            compare("total(" + what + ")", () -> program.total(what), () -> model.total(what));
        } else {
            compare("next(" + q + ")", () -> program.next(q), () -> model.next(q));
        }
    }

    private void compare(String call, IntSupplier got, IntSupplier due) {
        String gotAnswer = answer(got);
        String dueAnswer = answer(due);
        told.add(call + " -> " + gotAnswer);
        if (told.size() > TOLD_BEFORE) {
            told.remove();
        }
        Checks.isTrue(name + ": " + call + " answered " + gotAnswer + ", due is " + dueAnswer + "; that",
                gotAnswer.equals(dueAnswer));
        if (!gotAnswer.equals(dueAnswer)) {
            differs = true;
            told.forEach(line -> System.out.println("    " + line));
        }
    }

    private static String answer(IntSupplier call) {
        try {
            return Integer.toString(call.getAsInt());
        } catch (RuntimeException e) {
            return "throws." + e.getClass().getSimpleName();
        }
    }

    private static int bit(boolean answer) {
        return answer ? 1 : 0;
    }

    private static int nothing(Runnable call) {
        call.run();
        return 0;
    }

    private int queue() {
        return number(0, queues - 1);
    }

    private int consumer() {
        return number(0, 7);
    }

    private int item() {
        return number(1, Math.max(1, model.total(1)));
    }

    private int leasedItem() {
        int item = item();
        for (int i = 0; i < 6 && item >= 1 && item <= model.total(1) && model.about(item, 5) != 1; i++) {
            item = item();
        }
        return item;
    }

    private int number(int least, int most) {
        if (random.nextInt(1000) < wrongInThousand) {
            int[] wrong = {least - 1, most + 1, Integer.MIN_VALUE, Integer.MAX_VALUE, -1, 0};
            return wrong[random.nextInt(wrong.length)];
        }
        return least + random.nextInt(most - least + 1);
    }
}
