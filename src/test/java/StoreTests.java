/** What the tests of a store share: stores to begin with, and how to look at them. */
abstract class StoreTests {
    static final int NONE = Keysapart.NONE;
    static final int MIN = Integer.MIN_VALUE;
    static final int MAX = Integer.MAX_VALUE;

    final Checks checks;

    StoreTests(Checks checks) {
        this.checks = checks;
    }

    abstract void run();

    /** Puts the key with the values 0, 1, 2 and so on: all entries but the last one are dead. */
    static Keysapart withPuts(int key, int count) {
        Keysapart x = new Keysapart();
        for (int value = 0; value < count; value++) {
            x.put(key, value);
        }
        return x;
    }

    /** Puts the keys 0, 1, 2 and so on, each with its tenfold as value: all entries are live. */
    static Keysapart withKeys(int count) {
        Keysapart x = new Keysapart();
        for (int key = 0; key < count; key++) {
            x.put(key, 10 * key);
        }
        return x;
    }

    /** A log without entries, its tail and its head at the position, which is 2 to 96. */
    static Keysapart emptyLogAt(int position) {
        Keysapart x = withPuts(5, position - 1);
        x.delete(5);
        x.collect(position);
        return x;
    }

    /** Loses the power of the store, which has nothing in memory only; returns the store. */
    static Keysapart writtenAndDown(Keysapart x) {
        x.synchronize();
        x.crash();
        return x;
    }

    void dueLog(Keysapart x, int tail, int written, int head) {
        checks.due("tail", x.tail(), tail);
        checks.due("written", x.written(), written);
        checks.due("head", x.head(), head);
    }

    void refusedArgument(String call, Checks.Call body) {
        checks.throwsDue(call, Checks.ARGUMENT, body);
    }

    void refusedState(String call, Checks.Call body) {
        checks.throwsDue(call, Checks.STATE, body);
    }

    /** Checks that nothing that can be looked at is another one behind the calls. */
    void unchanged(Keysapart x, Checks.Call calls) {
        String ahead = picture(x);
        calls.run();
        checks.due("all that can be looked at", picture(x), ahead);
    }

    /** Some 75 calls; an object is used for at most 512. */
    private static String picture(Keysapart x) {
        StringBuilder text = new StringBuilder();
        text.append("up ").append(x.isUp()).append(", tail ").append(x.tail());
        text.append(", written ").append(x.written()).append(", head ").append(x.head());
        text.append(", checkpoint at ").append(x.checkpointAt());
        text.append(", segments ").append(x.segments()).append(", to free ").append(x.toFree());
        text.append(", would have ").append(x.wouldHave());
        if (x.isUp()) {
            text.append(", live ").append(x.live()).append(", sum ").append(x.sum(0, 63));
            text.append(", fetches ").append(x.fetches(0, 63)).append(", positions");
            for (int key = 0; key < 64; key++) {
                text.append(' ').append(x.positionOf(key));
            }
        }
        return text.toString();
    }
}
