/** Wrong inputs and wrong states: which exception each call throws, and that it changes nothing. */
final class RefusalTests extends StoreTests {
    private static final int[] BAD_KEYS = {-1, 64, MIN, MAX};

    RefusalTests(Checks checks) {
        super(checks);
    }

    @Override
    void run() {
        checks.test("2 to 7, 10, 11, 19: arguments out of range when up", () -> argumentsRefused(prepared()));
        checks.test("arguments out of range when down come first", () -> argumentsRefused(down()));
        checks.test("2 to 10, 12, 19, 21: calls on a store that is down", this::downRefused);
        checks.test("3, 10, 13: states that do not fit when up", this::upRefused);
        checks.test("11, 14 to 18, 20, 22, 23: calls that a store answers when down", this::downAnswered);
        checks.test("arguments at the edges of their ranges", this::edgesTaken);
    }

    private static Keysapart prepared() {
        Keysapart x = new Keysapart();
        x.put(1, 10);
        x.put(2, 20);
        x.checkpoint();
        x.put(3, 30);
        return x;
    }

    private static Keysapart down() {
        Keysapart x = prepared();
        x.crash();
        return x;
    }

    private void argumentsRefused(Keysapart x) {
        boolean up = x.isUp();
        int head = x.head();
        for (int key : BAD_KEYS) {
            refusedArgument("put(" + key + ", 1)", () -> x.put(key, 1));
            refusedArgument("delete(" + key + ")", () -> x.delete(key));
            refusedArgument("get(" + key + ")", () -> x.get(key));
            refusedArgument("next(" + key + ")", () -> x.next(key));
            refusedArgument("positionOf(" + key + ")", () -> x.positionOf(key));
            refusedArgument("sum(" + key + ", 5)", () -> x.sum(key, 5));
            refusedArgument("sum(5, " + key + ")", () -> x.sum(5, key));
            refusedArgument("fetches(" + key + ", 5)", () -> x.fetches(key, 5));
            refusedArgument("fetches(5, " + key + ")", () -> x.fetches(5, key));
        }
        refusedArgument("put(1, -1)", () -> x.put(1, -1));
        refusedArgument("put(1, 10000)", () -> x.put(1, 10000));
        refusedArgument("put(1, MIN)", () -> x.put(1, MIN));
        refusedArgument("put(1, MAX)", () -> x.put(1, MAX));
        refusedArgument("sum(6, 5)", () -> x.sum(6, 5));
        refusedArgument("fetches(63, 0)", () -> x.fetches(63, 0));
        refusedArgument("collect(0)", () -> x.collect(0));
        refusedArgument("collect(97)", () -> x.collect(97));
        refusedArgument("collect(-1)", () -> x.collect(-1));
        refusedArgument("failAfter(-2)", () -> x.failAfter(-2));
        refusedArgument("failAfter(1001)", () -> x.failAfter(1001));
        checks.due("isUp", x.isUp(), up);
        checks.due("head", x.head(), head);
        checks.due("tail", x.tail(), 0);
        checks.due("written", x.written(), 2);
    }

    private void downRefused() {
        Keysapart x = down();
        refusedState("put", () -> x.put(0, 0));
        refusedState("delete", () -> x.delete(1));
        refusedState("get", () -> x.get(1));
        refusedState("next", () -> x.next(0));
        refusedState("sum", () -> x.sum(0, 63));
        refusedState("fetches", () -> x.fetches(0, 63));
        refusedState("synchronize", x::synchronize);
        refusedState("checkpoint", x::checkpoint);
        refusedState("collect", () -> x.collect(1));
        refusedState("crash", x::crash);
        refusedState("positionOf", () -> x.positionOf(1));
        refusedState("live", x::live);
        checks.due("head", x.head(), 2);
        checks.due("start", x.start(), 2);
        checks.due("sum", x.sum(0, 63), 30);
    }

    private void upRefused() {
        Keysapart x = prepared();
        refusedState("start", x::start);
        refusedState("delete(0)", () -> x.delete(0));
        refusedState("collect(4)", () -> x.collect(4));
        checks.due("isUp", x.isUp(), true);
        checks.due("head", x.head(), 3);
        checks.due("written", x.written(), 2);
        checks.due("get(3)", x.get(3), 30);
        checks.due("collect(3)", x.collect(3), true);
    }

    private void downAnswered() {
        Keysapart x = down();
        x.failAfter(5);
        checks.due("isUp", x.isUp(), false);
        checks.due("head", x.head(), 2);
        checks.due("tail", x.tail(), 0);
        checks.due("written", x.written(), 2);
        checks.due("checkpointAt", x.checkpointAt(), 2);
        checks.due("segments", x.segments(), 1);
        checks.due("toFree", x.toFree(), NONE);
        checks.due("wouldHave", x.wouldHave(), 2);
    }

    private void edgesTaken() {
        Keysapart x = new Keysapart();
        checks.due("put(0, 0)", x.put(0, 0), 0);
        checks.due("put(63, 9999)", x.put(63, 9999), 1);
        checks.due("sum(0, 0)", x.sum(0, 0), 0);
        checks.due("sum(63, 63)", x.sum(63, 63), 9999);
        checks.due("fetches(0, 63)", x.fetches(0, 63), 1);
        checks.due("next(63)", x.next(63), 63);
        checks.due("positionOf(63)", x.positionOf(63), 1);
        x.failAfter(1000);
        x.failAfter(0);
        x.failAfter(-1);
        checks.due("collect(1)", x.collect(1), true);
        checks.due("delete(63)", x.delete(63), 9999);
        checks.due("delete(0)", x.delete(0), 0);
        Keysapart full = new Keysapart();
        for (int k = 0; k < 48; k++) {
            full.put(5, k);
            full.delete(5);
        }
        checks.due("collect(96)", full.collect(96), true);
        checks.due("tail", full.tail(), 96);
        checks.due("put then", full.put(5, 5), 96);
    }
}
