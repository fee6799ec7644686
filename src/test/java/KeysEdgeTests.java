/**
 * Promises 1 to 7: one test for each sentence that names a boundary. A test's name begins with the
 * number of the promise; behind it stands the sentence or, in brackets, where the terms say it.
 */
final class KeysEdgeTests extends StoreTests {
    KeysEdgeTests(Checks checks) {
        super(checks);
    }

    @Override
    void run() {
        aNewObject();
        puts();
        deletes();
        gets();
        nexts();
        sums();
        fetching();
    }

    private void aNewObject() {
        checks.test("1: an empty store", this::newIsEmpty);
        checks.test("1: that is up", this::newIsUp);
        checks.test("1: power does not fail", this::newPowerStays);
        checks.test("1 (log): head and tail are both 0 at first", this::newHeadAndTail);
        checks.test("1 (kept): at first the checkpoint has an empty index and the position 0", this::newCheckpoint);
        checks.test("1: an object is used for at most 512 calls", this::allCallsAreAnswered);
    }

    private void puts() {
        checks.test("2: key 0 to 63", this::putKeyRange);
        checks.test("2: value 0 to 9999", this::putValueRange);
        checks.test("2: returns the position of the entry", this::putPosition);
        checks.test("2: throws if the store is down", this::putWhenDown);
        checks.test("2 (log): an entry cannot be appended if it would need a 13th", this::putNeeds13th);
        checks.test("2 (log): the same with the tail at the end of a segment", this::putTailInSegment);
        checks.test("2 (log): the same with no entry, the tail inside a segment", this::putNoEntryInSegment);
        checks.test("2 (log): the same with no entry, the tail where a segment begins", this::putNoEntryAtSegment);
        checks.test("2 (terms): if both apply, IllegalArgumentException", this::putBothApply);
        checks.test("2 (terms): a put that throws changes nothing", this::putThrowsChangesNothing);
    }

    private void deletes() {
        checks.test("3: key 0 to 63", this::deleteKeyRange);
        checks.test("3: returns the value that it had, 0 and 9999 too", this::deleteReturns);
        checks.test("3: throws if the key is not there", this::deleteNotThere);
        checks.test("3: throws if the entry cannot be appended", this::deleteNeedsPlace);
        checks.test("3: throws if the store is down", this::deleteWhenDown);
        checks.test("3 (terms): if both apply, IllegalArgumentException", this::deleteBothApply);
        checks.test("3 (terms): a delete that throws changes nothing", this::deleteThrowsChangesNothing);
    }

    private void gets() {
        checks.test("4: key 0 to 63", this::getKeyRange);
        checks.test("4: NONE if it is not there", this::getNone);
        checks.test("4: the value 0 is there", this::getZero);
        checks.test("4: throws if the store is down", this::getWhenDown);
        checks.test("4 (terms): if both apply, IllegalArgumentException", this::getBothApply);
        checks.test("4 (terms): a get that throws changes nothing", this::getThrowsChangesNothing);
    }

    private void nexts() {
        checks.test("5: key 0 to 63", this::nextKeyRange);
        checks.test("5: from a key on, this one included", this::nextIncluded);
        checks.test("5: NONE if there is none", this::nextNone);
        checks.test("5: throws if the store is down", this::nextWhenDown);
        checks.test("5 (terms): if both apply, IllegalArgumentException", this::nextBothApply);
        checks.test("5 (terms): a next that throws changes nothing", this::nextThrowsChangesNothing);
    }

    private void sums() {
        checks.test("6: from 0 to 63", this::sumFromRange);
        checks.test("6: to from to 63, included", this::sumToRange);
        checks.test("6: all keys from one to another one", this::sumEnds);
        checks.test("6: of no keys", this::sumNoKeys);
        checks.test("6: of all keys with the largest value", this::sumLargest);
        checks.test("6: throws if the store is down", this::sumWhenDown);
        checks.test("6 (terms): if both apply, IllegalArgumentException", this::sumBothApply);
        checks.test("6 (terms): a sum that throws changes nothing", this::sumThrowsChangesNothing);
    }

    private void fetching() {
        checks.test("7: from 0 to 63", this::fetchesFromRange);
        checks.test("7: to from to 63, included", this::fetchesToRange);
        checks.test("7: all keys from one to another one", this::fetchesEnds);
        checks.test("7: keys that are there", this::fetchesThere);
        checks.test("7: written or not", this::fetchesWrittenOrNot);
        checks.test("7: each segment counts once", this::fetchesOnce);
        checks.test("7 (log): segment s has the positions from 8 s to 8 s + 7", this::fetchesSegmentEnds);
        checks.test("7 (log): at most 12 segments", this::fetchesMost);
        checks.test("7: throws if the store is down", this::fetchesWhenDown);
        checks.test("7 (terms): if both apply, IllegalArgumentException", this::fetchesBothApply);
        checks.test("7 (terms): a fetches that throws changes nothing", this::fetchesThrowsChangesNothing);
    }

    // ---- 1

    private void newIsEmpty() {
        Keysapart x = new Keysapart();
        for (int key = 0; key < 64; key++) {
            checks.due("get(" + key + ")", x.get(key), NONE);
            checks.due("positionOf(" + key + ")", x.positionOf(key), NONE);
        }
        checks.due("next(0)", x.next(0), NONE);
        checks.due("live", x.live(), 0);
        checks.due("segments", x.segments(), 0);
        checks.due("wouldHave", x.wouldHave(), 0);
    }

    private void newIsUp() {
        Keysapart x = new Keysapart();
        checks.due("isUp", x.isUp(), true);
        refusedState("start", x::start);
        checks.due("put(0, 0)", x.put(0, 0), 0);
    }

    /** 48 and 30 times 49 writes: more than can be chosen with failAfter. */
    private void newPowerStays() {
        Keysapart x = withKeys(48);
        for (int round = 0; round < 30; round++) {
            checks.due("collect(48)", x.collect(48), true);
        }
        checks.due("tail", x.tail(), 30 * 48);
    }

    private void newHeadAndTail() {
        Keysapart x = new Keysapart();
        dueLog(x, 0, 0, 0);
    }

    private void newCheckpoint() {
        Keysapart x = new Keysapart();
        checks.due("checkpointAt", x.checkpointAt(), 0);
        x.crash();
        checks.due("start of what has no entry", x.start(), 0);
        x.put(9, 90);
        x.synchronize();
        x.crash();
        checks.due("start that goes through the entry at 0", x.start(), 1);
        checks.due("positionOf(9)", x.positionOf(9), 0);
        checks.due("checkpointAt then", x.checkpointAt(), 0);
    }

    /** The longest log that 512 calls make: 445 times 32 entries more. */
    private void allCallsAreAnswered() {
        Keysapart x = withKeys(64);
        for (int round = 0; round < 445; round++) {
            checks.due("collect(32)", x.collect(32), true);
        }
        int moved = 445 * 32;
        checks.due("head, call 510", x.head(), 64 + moved);
        checks.due("sum(0, 63), call 511", x.sum(0, 63), 20160);
        checks.due("positionOf(0), call 512", x.positionOf(0), 32 + moved);
    }

    // ---- 2

    private void putKeyRange() {
        Keysapart x = new Keysapart();
        checks.due("put(0, 1)", x.put(0, 1), 0);
        checks.due("put(63, 1)", x.put(63, 1), 1);
        refusedArgument("put(-1, 1)", () -> x.put(-1, 1));
        refusedArgument("put(64, 1)", () -> x.put(64, 1));
        refusedArgument("put(MIN, 1)", () -> x.put(MIN, 1));
        refusedArgument("put(MAX, 1)", () -> x.put(MAX, 1));
        checks.due("head", x.head(), 2);
        checks.due("live", x.live(), 2);
    }

    private void putValueRange() {
        Keysapart x = new Keysapart();
        checks.due("put(1, 0)", x.put(1, 0), 0);
        checks.due("put(2, 9999)", x.put(2, 9999), 1);
        refusedArgument("put(3, -1)", () -> x.put(3, -1));
        refusedArgument("put(3, 10000)", () -> x.put(3, 10000));
        refusedArgument("put(3, MIN)", () -> x.put(3, MIN));
        refusedArgument("put(3, MAX)", () -> x.put(3, MAX));
        checks.due("head", x.head(), 2);
        checks.due("get(1)", x.get(1), 0);
        checks.due("get(2)", x.get(2), 9999);
        checks.due("get(3)", x.get(3), NONE);
    }

    private void putPosition() {
        Keysapart x = new Keysapart();
        checks.due("the first put", x.put(7, 70), 0);
        x.synchronize();
        checks.due("the second put", x.put(7, 71), 1);
        checks.due("a put that is lost", x.put(8, 80), 2);
        x.crash();
        x.start();
        checks.due("a put in place of a lost one", x.put(9, 90), 1);
        Keysapart later = emptyLogAt(96);
        checks.due("a put where the log has gone round", later.put(9, 90), 96);
    }

    private void putWhenDown() {
        Keysapart x = writtenAndDown(withKeys(3));
        unchanged(x, () -> refusedState("put(0, 1)", () -> x.put(0, 1)));
        checks.due("start", x.start(), 3);
        checks.due("get(0)", x.get(0), 0);
    }

    private void putNeeds13th() {
        Keysapart x = withPuts(5, 95);
        checks.due("the 96th put", x.put(6, 60), 95);
        checks.due("segments", x.segments(), 12);
        refusedState("the 97th put", () -> x.put(6, 61));
        checks.due("head", x.head(), 96);
    }

    private void putTailInSegment() {
        Keysapart x = withPuts(5, 96);
        x.collect(7);
        refusedState("put at 96 with the tail at 7", () -> x.put(6, 60));
        x.collect(1);
        for (int position = 96; position < 104; position++) {
            checks.due("put with the tail at 8", x.put(6, position), position);
        }
        refusedState("put at 104 with the tail at 8", () -> x.put(6, 60));
        checks.due("get(5)", x.get(5), 95);
        checks.due("get(6)", x.get(6), 103);
    }

    private void putNoEntryInSegment() {
        Keysapart x = emptyLogAt(13);
        for (int position = 13; position < 104; position++) {
            checks.due("put with the tail at 13", x.put(6, position), position);
        }
        checks.due("segments", x.segments(), 12);
        refusedState("put at 104", () -> x.put(6, 60));
    }

    private void putNoEntryAtSegment() {
        Keysapart x = emptyLogAt(96);
        for (int position = 96; position < 192; position++) {
            checks.due("put with the tail at 96", x.put(6, position), position);
        }
        checks.due("segments", x.segments(), 12);
        refusedState("put at 192", () -> x.put(6, 60));
    }

    private void putBothApply() {
        Keysapart full = withPuts(5, 96);
        refusedArgument("put(64, 1), full", () -> full.put(64, 1));
        refusedArgument("put(1, 10000), full", () -> full.put(1, 10000));
        full.crash();
        refusedArgument("put(-1, 1), down", () -> full.put(-1, 1));
        refusedArgument("put(1, -1), down", () -> full.put(1, -1));
    }

    private void putThrowsChangesNothing() {
        Keysapart x = withKeys(48);
        for (int k = 0; k < 48; k++) {
            x.put(47, k);
        }
        x.failAfter(96);
        unchanged(x, () -> {
            refusedState("put(0, 1)", () -> x.put(0, 1));
            refusedArgument("put(64, 1)", () -> x.put(64, 1));
            refusedArgument("put(0, 10000)", () -> x.put(0, 10000));
        });
        checks.due("get(0)", x.get(0), 0);
        checks.due("synchronize, the chosen writes", x.synchronize(), true);
        checks.due("checkpoint, the write behind them", x.checkpoint(), false);
    }

    // ---- 3

    private void deleteKeyRange() {
        Keysapart x = withKeys(64);
        checks.due("delete(0)", x.delete(0), 0);
        checks.due("delete(63)", x.delete(63), 630);
        refusedArgument("delete(-1)", () -> x.delete(-1));
        refusedArgument("delete(64)", () -> x.delete(64));
        refusedArgument("delete(MIN)", () -> x.delete(MIN));
        refusedArgument("delete(MAX)", () -> x.delete(MAX));
        checks.due("head", x.head(), 66);
        checks.due("live", x.live(), 62);
    }

    private void deleteReturns() {
        Keysapart x = new Keysapart();
        x.put(1, 0);
        x.put(2, 5);
        x.put(2, 9999);
        checks.due("delete(1)", x.delete(1), 0);
        checks.due("delete(2)", x.delete(2), 9999);
        checks.due("head", x.head(), 5);
    }

    private void deleteNotThere() {
        Keysapart x = withKeys(2);
        x.synchronize();
        refusedState("delete of a key that never was there", () -> x.delete(2));
        x.delete(1);
        refusedState("delete of a key that is deleted", () -> x.delete(1));
        x.put(2, 20);
        x.crash();
        x.start();
        refusedState("delete of a key that is lost", () -> x.delete(2));
        checks.due("delete of a key whose mark is lost", x.delete(1), 10);
        checks.due("head", x.head(), 3);
    }

    private void deleteNeedsPlace() {
        Keysapart x = withPuts(5, 94);
        x.put(6, 60);
        checks.due("delete(5) at the last place", x.delete(5), 93);
        checks.due("head", x.head(), 96);
        refusedState("delete(6)", () -> x.delete(6));
        checks.due("head then", x.head(), 96);
        x.collect(8);
        checks.due("delete(6) with a segment freed", x.delete(6), 60);
    }

    private void deleteWhenDown() {
        Keysapart x = writtenAndDown(withKeys(3));
        unchanged(x, () -> refusedState("delete(0)", () -> x.delete(0)));
        checks.due("start", x.start(), 3);
    }

    private void deleteBothApply() {
        Keysapart full = withPuts(5, 96);
        refusedArgument("delete(64), full", () -> full.delete(64));
        full.crash();
        refusedArgument("delete(-1), down", () -> full.delete(-1));
    }

    private void deleteThrowsChangesNothing() {
        Keysapart x = withPuts(5, 96);
        x.failAfter(96);
        unchanged(x, () -> {
            refusedState("delete(5), full", () -> x.delete(5));
            refusedState("delete(6), not there", () -> x.delete(6));
            refusedArgument("delete(64)", () -> x.delete(64));
        });
        checks.due("get(5)", x.get(5), 95);
        checks.due("synchronize, the chosen writes", x.synchronize(), true);
        checks.due("checkpoint, the write behind them", x.checkpoint(), false);
    }

    // ---- 4

    private void getKeyRange() {
        Keysapart x = withKeys(64);
        checks.due("get(0)", x.get(0), 0);
        checks.due("get(63)", x.get(63), 630);
        refusedArgument("get(-1)", () -> x.get(-1));
        refusedArgument("get(64)", () -> x.get(64));
        refusedArgument("get(MIN)", () -> x.get(MIN));
        refusedArgument("get(MAX)", () -> x.get(MAX));
    }

    private void getNone() {
        Keysapart x = withKeys(2);
        x.synchronize();
        checks.due("get of a key that never was there", x.get(2), NONE);
        x.delete(1);
        checks.due("get of a key that is deleted", x.get(1), NONE);
        x.put(2, 20);
        checks.due("get of a key in memory", x.get(2), 20);
        x.crash();
        x.start();
        checks.due("get of a key that is lost", x.get(2), NONE);
        checks.due("get of a key whose mark is lost", x.get(1), 10);
    }

    private void getZero() {
        Keysapart x = new Keysapart();
        x.put(0, 0);
        checks.due("get(0)", x.get(0), 0);
        x.put(0, 9999);
        checks.due("get(0) then", x.get(0), 9999);
    }

    private void getWhenDown() {
        Keysapart x = writtenAndDown(withKeys(3));
        refusedState("get(1)", () -> x.get(1));
        x.start();
        checks.due("get(1), up again", x.get(1), 10);
    }

    private void getBothApply() {
        Keysapart x = writtenAndDown(withKeys(3));
        refusedArgument("get(-1)", () -> x.get(-1));
        refusedArgument("get(64)", () -> x.get(64));
    }

    private void getThrowsChangesNothing() {
        Keysapart x = withKeys(3);
        x.failAfter(3);
        unchanged(x, () -> refusedArgument("get(64)", () -> x.get(64)));
        checks.due("synchronize, the three writes ahead", x.synchronize(), true);
        x.crash();
        unchanged(x, () -> refusedState("get(1), down", () -> x.get(1)));
        checks.due("start", x.start(), 3);
        checks.due("checkpoint, the chosen write", x.checkpoint(), false);
    }

    // ---- 5

    private void nextKeyRange() {
        Keysapart x = withKeys(64);
        checks.due("next(0)", x.next(0), 0);
        checks.due("next(63)", x.next(63), 63);
        refusedArgument("next(-1)", () -> x.next(-1));
        refusedArgument("next(64)", () -> x.next(64));
        refusedArgument("next(MIN)", () -> x.next(MIN));
        refusedArgument("next(MAX)", () -> x.next(MAX));
    }

    private void nextIncluded() {
        Keysapart x = new Keysapart();
        x.put(20, 1);
        x.put(40, 0);
        checks.due("next(19)", x.next(19), 20);
        checks.due("next(20)", x.next(20), 20);
        checks.due("next(21)", x.next(21), 40);
        x.delete(20);
        checks.due("next(20) then", x.next(20), 40);
    }

    private void nextNone() {
        Keysapart x = new Keysapart();
        checks.due("next(0) of none", x.next(0), NONE);
        x.put(62, 1);
        checks.due("next(63)", x.next(63), NONE);
        checks.due("next(0)", x.next(0), 62);
        x.put(63, 1);
        checks.due("next(63) then", x.next(63), 63);
        x.delete(63);
        checks.due("next(63) at last", x.next(63), NONE);
    }

    private void nextWhenDown() {
        Keysapart x = writtenAndDown(withKeys(3));
        refusedState("next(0)", () -> x.next(0));
        x.start();
        checks.due("next(0), up again", x.next(0), 0);
    }

    private void nextBothApply() {
        Keysapart x = writtenAndDown(withKeys(3));
        refusedArgument("next(-1)", () -> x.next(-1));
        refusedArgument("next(64)", () -> x.next(64));
    }

    private void nextThrowsChangesNothing() {
        Keysapart x = withKeys(3);
        x.failAfter(3);
        unchanged(x, () -> refusedArgument("next(-1)", () -> x.next(-1)));
        checks.due("synchronize, the three writes ahead", x.synchronize(), true);
        x.crash();
        unchanged(x, () -> refusedState("next(0), down", () -> x.next(0)));
        checks.due("start", x.start(), 3);
        checks.due("checkpoint, the chosen write", x.checkpoint(), false);
    }

    // ---- 6

    private void sumFromRange() {
        Keysapart x = withKeys(64);
        checks.due("sum(0, 63)", x.sum(0, 63), 20160);
        checks.due("sum(63, 63)", x.sum(63, 63), 630);
        refusedArgument("sum(-1, 63)", () -> x.sum(-1, 63));
        refusedArgument("sum(64, 64)", () -> x.sum(64, 64));
        refusedArgument("sum(64, 63)", () -> x.sum(64, 63));
        refusedArgument("sum(MIN, 63)", () -> x.sum(MIN, 63));
        refusedArgument("sum(MAX, MAX)", () -> x.sum(MAX, MAX));
    }

    private void sumToRange() {
        Keysapart x = withKeys(64);
        checks.due("sum(5, 5)", x.sum(5, 5), 50);
        checks.due("sum(62, 63)", x.sum(62, 63), 1250);
        refusedArgument("sum(5, 4)", () -> x.sum(5, 4));
        refusedArgument("sum(63, 0)", () -> x.sum(63, 0));
        refusedArgument("sum(0, -1)", () -> x.sum(0, -1));
        refusedArgument("sum(0, 64)", () -> x.sum(0, 64));
        refusedArgument("sum(0, MAX)", () -> x.sum(0, MAX));
        refusedArgument("sum(0, MIN)", () -> x.sum(0, MIN));
    }

    private void sumEnds() {
        Keysapart x = new Keysapart();
        x.put(9, 1);
        x.put(10, 20);
        x.put(15, 300);
        x.put(20, 4000);
        x.put(21, 5);
        checks.due("sum(10, 20)", x.sum(10, 20), 4320);
        checks.due("sum(11, 19)", x.sum(11, 19), 300);
        checks.due("sum(9, 21)", x.sum(9, 21), 4326);
        x.delete(20);
        checks.due("sum(10, 20) then", x.sum(10, 20), 320);
    }

    private void sumNoKeys() {
        Keysapart x = new Keysapart();
        checks.due("sum(0, 63)", x.sum(0, 63), 0);
        x.put(9, 1);
        checks.due("sum(0, 8)", x.sum(0, 8), 0);
        checks.due("sum(10, 63)", x.sum(10, 63), 0);
        Keysapart full = withPuts(5, 96);
        checks.due("sum(6, 63) of a full log", full.sum(6, 63), 0);
    }

    private void sumLargest() {
        Keysapart x = new Keysapart();
        for (int key = 0; key < 64; key++) {
            x.put(key, 9999);
        }
        checks.due("sum(0, 63)", x.sum(0, 63), 639936);
    }

    private void sumWhenDown() {
        Keysapart x = writtenAndDown(withKeys(3));
        refusedState("sum(0, 63)", () -> x.sum(0, 63));
        x.start();
        checks.due("sum(0, 63), up again", x.sum(0, 63), 30);
    }

    private void sumBothApply() {
        Keysapart x = writtenAndDown(withKeys(3));
        refusedArgument("sum(-1, 63)", () -> x.sum(-1, 63));
        refusedArgument("sum(0, 64)", () -> x.sum(0, 64));
        refusedArgument("sum(5, 4)", () -> x.sum(5, 4));
    }

    private void sumThrowsChangesNothing() {
        Keysapart x = withKeys(3);
        x.failAfter(3);
        unchanged(x, () -> refusedArgument("sum(5, 4)", () -> x.sum(5, 4)));
        checks.due("synchronize, the three writes ahead", x.synchronize(), true);
        x.crash();
        unchanged(x, () -> refusedState("sum(0, 63), down", () -> x.sum(0, 63)));
        checks.due("start", x.start(), 3);
        checks.due("checkpoint, the chosen write", x.checkpoint(), false);
    }

    // ---- 7

    private void fetchesFromRange() {
        Keysapart x = withKeys(64);
        checks.due("fetches(0, 63)", x.fetches(0, 63), 8);
        checks.due("fetches(63, 63)", x.fetches(63, 63), 1);
        refusedArgument("fetches(-1, 63)", () -> x.fetches(-1, 63));
        refusedArgument("fetches(64, 64)", () -> x.fetches(64, 64));
        refusedArgument("fetches(64, 63)", () -> x.fetches(64, 63));
        refusedArgument("fetches(MIN, 63)", () -> x.fetches(MIN, 63));
        refusedArgument("fetches(MAX, MAX)", () -> x.fetches(MAX, MAX));
    }

    private void fetchesToRange() {
        Keysapart x = withKeys(64);
        checks.due("fetches(5, 5)", x.fetches(5, 5), 1);
        checks.due("fetches(55, 63)", x.fetches(55, 63), 2);
        refusedArgument("fetches(5, 4)", () -> x.fetches(5, 4));
        refusedArgument("fetches(63, 0)", () -> x.fetches(63, 0));
        refusedArgument("fetches(0, -1)", () -> x.fetches(0, -1));
        refusedArgument("fetches(0, 64)", () -> x.fetches(0, 64));
        refusedArgument("fetches(0, MAX)", () -> x.fetches(0, MAX));
        refusedArgument("fetches(0, MIN)", () -> x.fetches(0, MIN));
    }

    /** Keys 0 to 7 are in segment 0, 8 to 15 in segment 1, 16 to 23 in segment 2. */
    private void fetchesEnds() {
        Keysapart x = withKeys(24);
        checks.due("fetches(8, 15)", x.fetches(8, 15), 1);
        checks.due("fetches(7, 15)", x.fetches(7, 15), 2);
        checks.due("fetches(8, 16)", x.fetches(8, 16), 2);
        checks.due("fetches(7, 16)", x.fetches(7, 16), 3);
    }

    private void fetchesThere() {
        Keysapart x = new Keysapart();
        checks.due("fetches(0, 63) of none", x.fetches(0, 63), 0);
        for (int key = 0; key < 16; key++) {
            x.put(key, 0);
        }
        checks.due("fetches(16, 63)", x.fetches(16, 63), 0);
        x.put(0, 1);
        checks.due("fetches(0, 0), put again", x.fetches(0, 0), 1);
        checks.due("fetches(0, 15)", x.fetches(0, 15), 3);
        x.delete(0);
        checks.due("fetches(0, 0), deleted", x.fetches(0, 0), 0);
        checks.due("fetches(0, 15) then", x.fetches(0, 15), 2);
    }

    private void fetchesWrittenOrNot() {
        Keysapart x = withKeys(8);
        x.synchronize();
        x.put(8, 0);
        checks.due("fetches(0, 8)", x.fetches(0, 8), 2);
        checks.due("fetches(8, 8)", x.fetches(8, 8), 1);
        x.synchronize();
        checks.due("fetches(0, 8), all written", x.fetches(0, 8), 2);
    }

    private void fetchesOnce() {
        Keysapart x = withKeys(8);
        checks.due("fetches(0, 63) of eight keys in a segment", x.fetches(0, 63), 1);
        checks.due("fetches(3, 4)", x.fetches(3, 4), 1);
    }

    private void fetchesSegmentEnds() {
        Keysapart x = withKeys(17);
        checks.due("fetches(0, 0)", x.fetches(0, 0), 1);
        checks.due("fetches(0, 7)", x.fetches(0, 7), 1);
        checks.due("fetches(7, 8)", x.fetches(7, 8), 2);
        checks.due("fetches(8, 15)", x.fetches(8, 15), 1);
        checks.due("fetches(15, 16)", x.fetches(15, 16), 2);
        Keysapart later = emptyLogAt(93);
        for (int key = 0; key < 12; key++) {
            later.put(key, 0);
        }
        checks.due("fetches(0, 2), to 95", later.fetches(0, 2), 1);
        checks.due("fetches(2, 3), 95 and 96", later.fetches(2, 3), 2);
        checks.due("fetches(3, 10), 96 to 103", later.fetches(3, 10), 1);
        checks.due("fetches(10, 11), 103 and 104", later.fetches(10, 11), 2);
    }

    /** Key s is there at the last position of segment s. */
    private void fetchesMost() {
        Keysapart x = new Keysapart();
        for (int position = 0; position < 96; position++) {
            x.put(position / 8, 0);
        }
        checks.due("fetches(0, 63)", x.fetches(0, 63), 12);
        checks.due("fetches(1, 11)", x.fetches(1, 11), 11);
        Keysapart later = emptyLogAt(13);
        for (int position = 13; position < 104; position++) {
            later.put(position / 8, 0);
        }
        checks.due("fetches(0, 63), the tail at 13", later.fetches(0, 63), 12);
        checks.due("fetches(12, 12), the tail at 13", later.fetches(12, 12), 1);
    }

    private void fetchesWhenDown() {
        Keysapart x = writtenAndDown(withKeys(9));
        refusedState("fetches(0, 63)", () -> x.fetches(0, 63));
        x.start();
        checks.due("fetches(0, 63), up again", x.fetches(0, 63), 2);
    }

    private void fetchesBothApply() {
        Keysapart x = writtenAndDown(withKeys(3));
        refusedArgument("fetches(-1, 63)", () -> x.fetches(-1, 63));
        refusedArgument("fetches(0, 64)", () -> x.fetches(0, 64));
        refusedArgument("fetches(5, 4)", () -> x.fetches(5, 4));
    }

    private void fetchesThrowsChangesNothing() {
        Keysapart x = withKeys(3);
        x.failAfter(3);
        unchanged(x, () -> refusedArgument("fetches(0, 64)", () -> x.fetches(0, 64)));
        checks.due("synchronize, the three writes ahead", x.synchronize(), true);
        x.crash();
        unchanged(x, () -> refusedState("fetches(0, 63), down", () -> x.fetches(0, 63)));
        checks.due("start", x.start(), 3);
        checks.due("checkpoint, the chosen write", x.checkpoint(), false);
    }
}
