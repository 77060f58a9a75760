import java.util.ArrayDeque;
import java.util.ArrayList;
import java.util.Comparator;
import java.util.LinkedHashSet;
import java.util.List;
import java.util.Set;

/**
 * A second program after the same document, slow and simple: it copies all items whenever it is
 * written, sorts whenever the order is asked for, and steps through time unit by unit.
 */
final class PlainModel {
    private static final Comparator<Item> THE_ORDER =
            Comparator.<Item>comparingInt(i -> i.priority).thenComparingInt(i -> i.due).thenComparingInt(i -> i.number);

    private static final class Item implements Cloneable {
        int number;
        int queue;
        int priority;
        int due;
        int body;
        int key;
        Set<Integer> waits = Set.of();
        String state = "open";
        int consumer = -1;
        int until = -1;
        int tries;

        Item copy() {
            try {
                return (Item) clone();
            } catch (CloneNotSupportedException e) {
                throw new AssertionError(e);
            }
        }
    }

    private List<Item> items = new ArrayList<>();
    private List<Item> writtenItems = new ArrayList<>();
    private final ArrayDeque<String> log = new ArrayDeque<>();
    private ArrayDeque<String> writtenLog = new ArrayDeque<>();
    private Set<Integer> awaited = new LinkedHashSet<>();
    private final List<List<Integer>> takes = List.of(
            new ArrayList<>(), new ArrayList<>(), new ArrayList<>(), new ArrayList<>());
    private final int[] rateN = new int[4];
    private final int[] rateW = {1, 1, 1, 1};
    private final int[] queueTries = {3, 3, 3, 3};
    private final int[] limits = {3, 3, 3, 3, 3, 3, 3, 3};
    private int time;
    private boolean safe = true;
    private int compactings;
    private int crashes;

    int push(int queue, int priority, int delay, int body, int key) {
        must(queue >= 0 && queue <= 3 && priority >= 0 && priority <= 9);
        must(delay >= 0 && delay <= 1000 && key >= 0);
        if (items.size() == 400) {
            throw new UnsupportedOperationException();
        }
        int answer = items.stream()
                .filter(i -> key != 0 && i.key == key && i.queue == queue && !i.state.equals("done"))
                .mapToInt(i -> i.number).findFirst().orElse(-1);
        if (answer == -1) {
            Item item = new Item();
            item.number = items.size() + 1;
            item.queue = queue;
            item.priority = priority;
            item.due = time + delay;
            item.body = body;
            item.key = key;
            item.waits = awaited;
            awaited = new LinkedHashSet<>();
            items.add(item);
            log.add("push");
            answer = item.number;
        }
        writeIfSafe();
        return answer;
    }

    int await(int item) {
        item(item);
        Set<Integer> more = new LinkedHashSet<>(awaited);
        more.add(item);
        if (more.size() == 4) {
            throw new IllegalStateException();
        }
        awaited = more;
        return more.size();
    }

    int take(int queue, int consumer, int lease) {
        must(queue >= 0 && queue <= 3);
        return takeOf(List.of(queue), consumer, lease);
    }

    int takeAny(int consumer, int lease) {
        return takeOf(List.of(0, 1, 2, 3), consumer, lease);
    }

    private int takeOf(List<Integer> queues, int consumer, int lease) {
        must(consumer >= 0 && consumer <= 7 && lease >= 1 && lease <= 1000);
        long has = items.stream().filter(i -> i.state.equals("leased") && i.consumer == consumer).count();
        if (has >= limits[consumer]) {
            return -1;
        }
        Item first = items.stream()
                .filter(i -> queues.contains(i.queue) && mayGo(i.queue, time) && isReady(i))
                .min(THE_ORDER).orElse(null);
        if (first == null) {
            return -1;
        }
        first.state = "leased";
        first.consumer = consumer;
        first.until = time + lease;
        first.tries++;
        takes.get(first.queue).add(time);
        log.add("take");
        return first.number;
    }

    boolean done(int consumer, int number) {
        Item item = leased(consumer, number);
        if (item != null) {
            release(item, "done");
            log.add("done");
        }
        writeIfSafe();
        return item != null;
    }

    boolean fail(int consumer, int number, int delay) {
        must(delay >= 0 && delay <= 1000);
        Item item = leased(consumer, number);
        if (item != null) {
            boolean aside = item.tries >= queueTries[item.queue];
            release(item, aside ? "aside" : "open");
            item.due = aside ? item.due : time + delay;
            log.add("fail");
        }
        writeIfSafe();
        return item != null;
    }

    boolean extend(int consumer, int number, int lease) {
        must(lease >= 1 && lease <= 1000);
        Item item = leased(consumer, number);
        if (item != null) {
            item.until = time + lease;
        }
        return item != null;
    }

    int chance(int queue) {
        must(queue >= 0 && queue <= 3);
        List<Item> aside = items.stream().filter(i -> i.queue == queue && i.state.equals("aside")).toList();
        for (Item item : aside) {
            item.state = "open";
            item.due = time;
            item.tries = 0;
            log.add("chance");
        }
        writeIfSafe();
        return aside.size();
    }

    int pass(int n) {
        must(n >= 0 && n <= 2000);
        int ended = 0;
        for (int unit = 0; unit < n; unit++) {
            time++;
            for (Item item : items) {
                if (item.state.equals("leased") && item.until == time) {
                    release(item, item.tries >= queueTries[item.queue] ? "aside" : "open");
                    log.add("back");
                    ended++;
                }
            }
        }
        if (ended > 0) {
            writeIfSafe();
        }
        return ended;
    }

    int write() {
        int notDone = (int) items.stream().filter(i -> !i.state.equals("done")).count();
        if (log.size() > 40 && log.size() > 2 * notDone) {
            while (log.size() > notDone) {
                log.remove();
            }
            compactings++;
        }
        writtenItems = copyOf(items);
        writtenLog = log.clone();
        return log.size();
    }

    int crash() {
        items = copyOf(writtenItems);
        items.stream().filter(i -> i.state.equals("leased")).forEach(i -> release(i, "open"));
        log.clear();
        log.addAll(writtenLog);
        awaited = new LinkedHashSet<>();
        crashes++;
        return items.size();
    }

    boolean safe(boolean on) {
        boolean was = safe;
        safe = on;
        return was;
    }

    int limit(int consumer, int most) {
        must(consumer >= 0 && consumer <= 7 && most >= 0 && most <= 20);
        int was = limits[consumer];
        limits[consumer] = most;
        return was;
    }

    void rate(int queue, int n, int w) {
        must(queue >= 0 && queue <= 3 && n >= 0 && n <= 100 && w >= 1 && w <= 1000);
        rateN[queue] = n;
        rateW[queue] = w;
    }

    int tries(int queue, int most) {
        must(queue >= 0 && queue <= 3 && most >= 1 && most <= 20);
        int was = queueTries[queue];
        queueTries[queue] = most;
        return was;
    }

    int about(int number, int what) {
        Item i = item(number);
        must(what >= 0 && what <= 9);
        int state = List.of("open", "leased", "done", "aside").indexOf(i.state);
        return new int[] {i.queue, i.priority, i.due, i.body, i.key, state, i.consumer, i.until, i.tries,
            waitsLeft(i)}[what];
    }

    int count(int queue, int state) {
        must(queue >= 0 && queue <= 3 && state >= 0 && state <= 4);
        if (state == 4) {
            return readyOf(queue).size();
        }
        String name = List.of("open", "leased", "done", "aside").get(state);
        return (int) items.stream().filter(i -> i.queue == queue && i.state.equals(name)).count();
    }

    int peek(int queue, int i) {
        must(queue >= 0 && queue <= 3);
        List<Item> ready = readyOf(queue);
        return i >= 0 && i < ready.size() ? ready.get(i).number : -1;
    }

    /** Lets time pass on a copy, unit by unit; nothing is due or leased for more than 1000 units. */
    int next(int queue) {
        must(queue >= 0 && queue <= 3);
        PlainModel later = new PlainModel();
        later.items = copyOf(items);
        later.time = time;
        later.safe = false;
        System.arraycopy(queueTries, 0, later.queueTries, 0, 4);
        for (int units = 0; units <= 1001; units++) {
            if (!later.readyOf(queue).isEmpty()) {
                return later.time;
            }
            later.pass(1);
        }
        return -1;
    }

    int total(int what) {
        must(what >= 0 && what <= 8);
        if (what >= 5) {
            int units = 0;
            while (!mayGo(what - 5, time + units)) {
                units++;
            }
            return units;
        }
        return new int[] {time, items.size(), log.size(), compactings, crashes}[what];
    }

    private static void must(boolean good) {
        if (!good) {
            throw new IllegalArgumentException();
        }
    }

    private Item item(int number) {
        must(number >= 1 && number <= items.size());
        return items.get(number - 1);
    }

    private Item leased(int consumer, int number) {
        must(consumer >= 0 && consumer <= 7);
        Item item = item(number);
        return item.state.equals("leased") && item.consumer == consumer ? item : null;
    }

    private static void release(Item item, String state) {
        item.state = state;
        item.consumer = -1;
        item.until = -1;
    }

    private int waitsLeft(Item item) {
        return (int) item.waits.stream().filter(n -> !items.get(n - 1).state.equals("done")).count();
    }

    private boolean isReady(Item item) {
        return item.state.equals("open") && item.due <= time && waitsLeft(item) == 0;
    }

    private List<Item> readyOf(int queue) {
        return items.stream().filter(i -> i.queue == queue && isReady(i)).sorted(THE_ORDER).toList();
    }

    private boolean mayGo(int queue, int at) {
        long many = takes.get(queue).stream().filter(t -> t > at - rateW[queue]).count();
        return rateN[queue] == 0 || many < rateN[queue];
    }

    private void writeIfSafe() {
        if (safe) {
            write();
        }
    }

    private static List<Item> copyOf(List<Item> from) {
        List<Item> to = new ArrayList<>();
        from.forEach(i -> to.add(i.copy()));
        return to;
    }
}
