/**
 * Promises 8 to 14: one test for each sentence that names a boundary. A test's name begins with the
 * number of the promise; behind it stands the sentence or, in brackets, where the terms say it.
 */
final class KeptEdgeTests extends StoreTests {
    KeptEdgeTests(Checks checks) {
        super(checks);
    }

    @Override
    void run() {
        synchronizing();
        checkpoints();
        collecting();
        collectingWrites();
        failing();
        crashes();
        starts();
        checks.test("14: tells whether the store is up", this::isUp);
    }

    private void synchronizing() {
        checks.test("8 (kept): all entries that are not written: none", this::synchronizeNone);
        checks.test("8 (kept): all entries that are not written: as many as the log can have", this::synchronizeMost);
        checks.test("8 (kept): written one by one, in the order of positions", this::synchronizeInOrder);
        checks.test("8 (power): that write is not done", this::synchronizeFails);
        checks.test("8: returns whether the store is still up", this::synchronizeReturns);
        checks.test("8: throws if the store is down, and changes nothing", this::synchronizeWhenDown);
    }

    private void checkpoints() {
        checks.test("9 (kept): this is one write", this::checkpointIsOneWrite);
        checks.test("9 (kept): to synchronize, and then to write the index", this::checkpointSynchronizesFirst);
        checks.test("9 (kept): the index as it is", this::checkpointIndex);
        checks.test("9 (kept): with the head as the position", this::checkpointPosition);
        checks.test("9 (kept): the latest checkpoint", this::checkpointLatest);
        checks.test("9 (power): that write is not done", this::checkpointFails);
        checks.test("9: a full log and an empty one", this::checkpointFullAndEmpty);
        checks.test("9: throws if the store is down, and changes nothing", this::checkpointWhenDown);
    }

    private void collecting() {
        checks.test("10: entries 1 to 96", this::collectRange);
        checks.test("10: throws if the log has fewer entries", this::collectFewer);
        checks.test("10: entries that are not written are entries of the log", this::collectUnwritten);
        checks.test("10: throws if the live ones of these cannot all be appended", this::collectRoom);
        checks.test("10: the same in a log that is full", this::collectFull);
        checks.test("10: the same with the tail inside a segment", this::collectRoomInSegment);
        checks.test("10: throws if the store is down", this::collectWhenDown);
        checks.test("10 (terms): if both apply, IllegalArgumentException", this::collectBothApply);
        checks.test("10 (terms): a collect that throws changes nothing", this::collectThrowsChangesNothing);
    }

    private void collectingWrites() {
        checks.test("10 (kept): the entries from the tail on, as many as are told", this::collectAsTold);
        checks.test("10 (kept): each one that is live is appended again", this::collectLiveAgain);
        checks.test("10 (log): all other entries are dead", this::collectDead);
        checks.test("10 (kept): then the log is synchronized", this::collectSynchronizes);
        checks.test("10 (kept): then the tail is written, which is one write", this::collectTailIsOneWrite);
        checks.test("10 (kept): the tail is greater by as many as are told", this::collectMovesTail);
        checks.test("10 (power): that write is not done", this::collectFails);
        checks.test("10: returns whether the store is still up", this::collectReturns);
    }

    private void failing() {
        checks.test("11: writes 0 to 1000, or NONE", this::failAfterRange);
        checks.test("11: 0 writes are still done ahead of it", this::failAfterNoWrite);
        checks.test("11: 1000 writes are still done ahead of it", this::failAfterMostWrites);
        checks.test("11: NONE for no failure", this::failAfterNone);
        checks.test("11: in place of one chosen before", this::failAfterInPlace);
        checks.test("11: when it has failed there, nothing is chosen any more", this::failAfterFailed);
        checks.test("11: only writes are counted", this::failAfterCountsWrites);
        checks.test("11: a store that is down", this::failAfterWhenDown);
        checks.test("11 (terms): a failAfter that throws changes nothing", this::failAfterThrowsChangesNothing);
    }

    private void crashes() {
        checks.test("12: how many entries are lost: none", this::crashNoneLost);
        checks.test("12: how many entries are lost: all", this::crashAllLost);
        checks.test("12: how many entries are lost: those that are not written", this::crashSomeLost);
        checks.test("12: no chosen write has failed", this::crashIsNoWrite);
        checks.test("12: throws if it is down, and changes nothing", this::crashWhenDown);
    }

    private void starts() {
        checks.test("13: it writes nothing", this::startWritesNothing);
        checks.test("13: how many keys are there then: 0 to 64", this::startCounts);
        checks.test("13 (power): the head is the written position", this::startHead);
        checks.test("13 (power): the index is that of the checkpoint", this::startCheckpoint);
        checks.test("13 (power): without keys whose position is below the tail", this::startBelowTail);
        checks.test("13 (power): all entries from the position of the checkpoint on", this::startFromCheckpoint);
        checks.test("13 (power): or from the tail on, if that is greater", this::startFromTail);
        checks.test("13 (power): gone through up to the head", this::startUpToHead);
        checks.test("13 (power): a value gives its position, a mark takes the key out", this::startValuesAndMarks);
        checks.test("13 (kept): the tail and the latest checkpoint are kept", this::startKeeps);
        checks.test("13: throws if it is up, and changes nothing", this::startWhenUp);
    }

    // ---- 8

    private void synchronizeNone() {
        Keysapart x = new Keysapart();
        x.failAfter(0);
        checks.due("synchronize of an empty log", x.synchronize(), true);
        x.failAfter(1);
        x.put(1, 10);
        checks.due("synchronize of one", x.synchronize(), true);
        checks.due("synchronize of none, no write left", x.synchronize(), true);
        dueLog(x, 0, 1, 1);
        x.put(2, 20);
        checks.due("synchronize of one, no write left", x.synchronize(), false);
    }

    private void synchronizeMost() {
        Keysapart x = withPuts(5, 96);
        x.failAfter(96);
        checks.due("synchronize of 96", x.synchronize(), true);
        dueLog(x, 0, 96, 96);
        checks.due("checkpoint, the 97th write", x.checkpoint(), false);
        Keysapart fails = withPuts(5, 96);
        fails.failAfter(95);
        checks.due("synchronize of 96 that fails at the last", fails.synchronize(), false);
        dueLog(fails, 0, 95, 95);
    }

    private void synchronizeInOrder() {
        for (int ahead = 0; ahead < 4; ahead++) {
            Keysapart x = withKeys(6);
            x.delete(0);
            x.failAfter(ahead);
            checks.due("synchronize", x.synchronize(), false);
            dueLog(x, 0, ahead, ahead);
            x.start();
            for (int key = 0; key < 6; key++) {
                checks.due("positionOf(" + key + ")", x.positionOf(key), key < ahead ? key : NONE);
            }
        }
    }

    private void synchronizeFails() {
        Keysapart x = withKeys(3);
        x.failAfter(2);
        checks.due("synchronize", x.synchronize(), false);
        dueLog(x, 0, 2, 2);
        checks.due("start", x.start(), 2);
        checks.due("get(1), the last one written", x.get(1), 10);
        checks.due("get(2), the first one lost", x.get(2), NONE);
        checks.due("put at the place of the lost one", x.put(3, 30), 2);
    }

    private void synchronizeReturns() {
        Keysapart x = withKeys(3);
        x.failAfter(3);
        checks.due("synchronize with power for all", x.synchronize(), true);
        checks.due("isUp", x.isUp(), true);
        x.put(1, 1);
        checks.due("synchronize with power for none", x.synchronize(), false);
        checks.due("isUp then", x.isUp(), false);
    }

    private void synchronizeWhenDown() {
        Keysapart x = writtenAndDown(withKeys(3));
        x.failAfter(0);
        unchanged(x, () -> refusedState("synchronize", x::synchronize));
        checks.due("start", x.start(), 3);
        checks.due("checkpoint, the chosen write", x.checkpoint(), false);
    }

    // ---- 9

    private void checkpointIsOneWrite() {
        Keysapart x = withKeys(3);
        x.synchronize();
        x.failAfter(2);
        checks.due("checkpoint with nothing to synchronize", x.checkpoint(), true);
        checks.due("checkpoint with no entry behind the last", x.checkpoint(), true);
        checks.due("checkpoint, the third write", x.checkpoint(), false);
        Keysapart other = withKeys(3);
        other.failAfter(4);
        checks.due("checkpoint with three to synchronize", other.checkpoint(), true);
        checks.due("checkpoint, the fifth write", other.checkpoint(), false);
    }

    private void checkpointSynchronizesFirst() {
        for (int ahead = 0; ahead <= 3; ahead++) {
            Keysapart x = withKeys(3);
            x.failAfter(ahead);
            checks.due("checkpoint", x.checkpoint(), false);
            dueLog(x, 0, ahead, ahead);
            checks.due("checkpointAt", x.checkpointAt(), 0);
            checks.due("start", x.start(), ahead);
        }
    }

    private void checkpointIndex() {
        Keysapart x = withKeys(3);
        x.delete(1);
        x.put(2, 22);
        x.checkpoint();
        x.put(0, 99);
        x.put(1, 99);
        x.delete(2);
        x.put(3, 99);
        x.crash();
        checks.due("start", x.start(), 2);
        checks.due("positionOf(0)", x.positionOf(0), 0);
        checks.due("positionOf(1)", x.positionOf(1), NONE);
        checks.due("positionOf(2)", x.positionOf(2), 4);
        checks.due("positionOf(3)", x.positionOf(3), NONE);
    }

    private void checkpointPosition() {
        Keysapart x = withKeys(3);
        x.synchronize();
        x.put(3, 30);
        checks.due("checkpoint", x.checkpoint(), true);
        checks.due("checkpointAt", x.checkpointAt(), 4);
        checks.due("head", x.head(), 4);
    }

    private void checkpointLatest() {
        Keysapart x = withKeys(3);
        x.checkpoint();
        x.delete(0);
        x.put(1, 11);
        x.checkpoint();
        checks.due("checkpointAt", x.checkpointAt(), 5);
        x.crash();
        checks.due("start", x.start(), 2);
        checks.due("positionOf(0)", x.positionOf(0), NONE);
        checks.due("positionOf(1)", x.positionOf(1), 4);
        checks.due("positionOf(2)", x.positionOf(2), 2);
    }

    private void checkpointFails() {
        Keysapart x = withKeys(3);
        x.checkpoint();
        x.delete(0);
        x.put(3, 30);
        x.failAfter(2);
        checks.due("checkpoint that fails at the index", x.checkpoint(), false);
        checks.due("checkpointAt", x.checkpointAt(), 3);
        dueLog(x, 0, 5, 5);
        checks.due("start", x.start(), 3);
        checks.due("positionOf(0)", x.positionOf(0), NONE);
        checks.due("positionOf(3)", x.positionOf(3), 4);
        checks.due("checkpoint then", x.checkpoint(), true);
        checks.due("checkpointAt then", x.checkpointAt(), 5);
    }

    private void checkpointFullAndEmpty() {
        Keysapart empty = new Keysapart();
        checks.due("checkpoint of a new object", empty.checkpoint(), true);
        checks.due("checkpointAt of a new object", empty.checkpointAt(), 0);
        Keysapart full = withPuts(5, 96);
        checks.due("checkpoint of a full log", full.checkpoint(), true);
        checks.due("checkpointAt of a full log", full.checkpointAt(), 96);
        dueLog(full, 0, 96, 96);
        full.crash();
        checks.due("start of a full log", full.start(), 1);
        checks.due("positionOf(5)", full.positionOf(5), 95);
    }

    private void checkpointWhenDown() {
        Keysapart x = writtenAndDown(withKeys(3));
        x.failAfter(0);
        unchanged(x, () -> refusedState("checkpoint", x::checkpoint));
        checks.due("start", x.start(), 3);
        checks.due("checkpoint, the chosen write", x.checkpoint(), false);
    }

    // ---- 10: what is refused

    private void collectRange() {
        Keysapart x = withPuts(5, 95);
        x.delete(5);
        refusedArgument("collect(0)", () -> x.collect(0));
        refusedArgument("collect(-1)", () -> x.collect(-1));
        refusedArgument("collect(97)", () -> x.collect(97));
        refusedArgument("collect(MIN)", () -> x.collect(MIN));
        refusedArgument("collect(MAX)", () -> x.collect(MAX));
        checks.due("tail", x.tail(), 0);
        checks.due("collect(96)", x.collect(96), true);
        checks.due("tail then", x.tail(), 96);
        x.put(5, 5);
        checks.due("collect(1)", x.collect(1), true);
        checks.due("tail at last", x.tail(), 97);
    }

    private void collectFewer() {
        Keysapart empty = new Keysapart();
        refusedState("collect(1) of none", () -> empty.collect(1));
        Keysapart x = withPuts(5, 3);
        x.synchronize();
        refusedState("collect(4) of 3", () -> x.collect(4));
        refusedState("collect(96) of 3", () -> x.collect(96));
        checks.due("collect(2) of 3", x.collect(2), true);
        refusedState("collect(2) of 1", () -> x.collect(2));
        checks.due("collect(1) of 1", x.collect(1), true);
        dueLog(x, 3, 4, 4);
    }

    private void collectUnwritten() {
        Keysapart x = withKeys(3);
        refusedState("collect(4) of 3", () -> x.collect(4));
        checks.due("collect(3) of 3", x.collect(3), true);
        dueLog(x, 3, 6, 6);
        checks.due("positionOf(0)", x.positionOf(0), 3);
        checks.due("positionOf(2)", x.positionOf(2), 5);
    }

    /** The keys 0 to 6 are live at 0 to 6; behind them the log has 90 entries and 6 places left. */
    private void collectRoom() {
        Keysapart x = withKeys(7);
        for (int position = 7; position < 90; position++) {
            x.put(9, position);
        }
        refusedState("collect(7), room for 6", () -> x.collect(7));
        dueLog(x, 0, 0, 90);
        checks.due("collect(6), room for 6", x.collect(6), true);
        dueLog(x, 6, 96, 96);
        checks.due("positionOf(0)", x.positionOf(0), 90);
        checks.due("positionOf(5)", x.positionOf(5), 95);
        checks.due("segments", x.segments(), 12);
    }

    private void collectFull() {
        Keysapart x = withPuts(5, 7);
        x.put(6, 60);
        for (int position = 8; position < 96; position++) {
            x.put(7, position);
        }
        refusedState("collect(8), the last of them live", () -> x.collect(8));
        refusedState("collect(7), the last of them live", () -> x.collect(7));
        checks.due("collect(6), all dead", x.collect(6), true);
        dueLog(x, 6, 96, 96);
        checks.due("positionOf(5)", x.positionOf(5), 6);
        checks.due("positionOf(6)", x.positionOf(6), 7);
    }

    /** With the tail at 6 or 7 the places end at 95, and with the tail at 8 to 15 at 103. */
    private void collectRoomInSegment() {
        Keysapart x = withPuts(5, 7);
        x.put(6, 60);
        for (int position = 8; position < 95; position++) {
            x.put(12, position);
        }
        x.collect(6);
        refusedState("collect(2), room for 1", () -> x.collect(2));
        checks.due("collect(1), room for 1", x.collect(1), true);
        dueLog(x, 7, 96, 96);
        refusedState("collect(1), which would free the segment, room for 0", () -> x.collect(1));
        Keysapart later = withPuts(5, 11);
        later.put(6, 60);
        for (int position = 12; position < 96; position++) {
            later.put(12, position);
        }
        later.collect(10);
        checks.due("collect(1), room for 8", later.collect(1), true);
        for (int position = 97; position < 104; position++) {
            later.put(12, position);
        }
        refusedState("collect(1) with the tail at 11, room for 0", () -> later.collect(1));
        dueLog(later, 11, 97, 104);
    }

    private void collectWhenDown() {
        Keysapart x = writtenAndDown(withKeys(3));
        x.failAfter(0);
        unchanged(x, () -> refusedState("collect(1)", () -> x.collect(1)));
        checks.due("start", x.start(), 3);
        checks.due("checkpoint, the chosen write", x.checkpoint(), false);
    }

    private void collectBothApply() {
        Keysapart x = withKeys(3);
        refusedArgument("collect(97) of 3", () -> x.collect(97));
        x.crash();
        refusedArgument("collect(97), down", () -> x.collect(97));
        refusedArgument("collect(0), down", () -> x.collect(0));
    }

    private void collectThrowsChangesNothing() {
        Keysapart x = withKeys(8);
        for (int position = 8; position < 93; position++) {
            x.put(9, position);
        }
        x.failAfter(93);
        unchanged(x, () -> {
            refusedState("collect(4), room for 3", () -> x.collect(4));
            refusedState("collect(94) of 93", () -> x.collect(94));
            refusedArgument("collect(0)", () -> x.collect(0));
            refusedArgument("collect(97)", () -> x.collect(97));
        });
        checks.due("synchronize, the chosen writes", x.synchronize(), true);
        checks.due("checkpoint, the write behind them", x.checkpoint(), false);
    }

    // ---- 10: what is written

    private void collectAsTold() {
        Keysapart x = withKeys(4);
        checks.due("collect(1)", x.collect(1), true);
        checks.due("positionOf(0)", x.positionOf(0), 4);
        checks.due("positionOf(1), now at the tail", x.positionOf(1), 1);
        checks.due("collect(3)", x.collect(3), true);
        checks.due("positionOf(3), the last one told", x.positionOf(3), 7);
        checks.due("positionOf(0), the first one not told", x.positionOf(0), 4);
        dueLog(x, 4, 8, 8);
    }

    private void collectLiveAgain() {
        Keysapart x = new Keysapart();
        x.put(9, 9999);
        x.put(3, 0);
        x.put(7, 70);
        checks.due("collect(3)", x.collect(3), true);
        checks.due("positionOf(9)", x.positionOf(9), 3);
        checks.due("positionOf(3)", x.positionOf(3), 4);
        checks.due("positionOf(7)", x.positionOf(7), 5);
        checks.due("get(9)", x.get(9), 9999);
        checks.due("get(3)", x.get(3), 0);
        checks.due("live", x.live(), 3);
        x.crash();
        checks.due("start", x.start(), 3);
        checks.due("positionOf(3), started", x.positionOf(3), 4);
        checks.due("get(9), started", x.get(9), 9999);
    }

    /** Dead are the older value of 1, the value of 2 that is deleted, and the mark of a deletion. */
    private void collectDead() {
        Keysapart x = new Keysapart();
        x.put(1, 10);
        x.put(2, 20);
        x.put(1, 10);
        x.delete(2);
        x.checkpoint();
        checks.due("collect(2) of dead ones", x.collect(2), true);
        dueLog(x, 2, 4, 4);
        checks.due("collect(2) of a live one and a mark", x.collect(2), true);
        dueLog(x, 4, 5, 5);
        checks.due("positionOf(1)", x.positionOf(1), 4);
        x.crash();
        checks.due("start", x.start(), 1);
        checks.due("get(2)", x.get(2), NONE);
    }

    private void collectSynchronizes() {
        Keysapart x = withPuts(5, 2);
        x.put(6, 60);
        x.put(7, 70);
        checks.due("collect(1) of a dead one", x.collect(1), true);
        dueLog(x, 1, 4, 4);
        x.put(8, 80);
        checks.due("collect(1) of a live one", x.collect(1), true);
        dueLog(x, 2, 6, 6);
        checks.due("crash", x.crash(), 0);
        checks.due("start", x.start(), 4);
    }

    private void collectTailIsOneWrite() {
        Keysapart x = withPuts(5, 20);
        x.synchronize();
        x.failAfter(2);
        checks.due("collect(1), one write", x.collect(1), true);
        checks.due("collect(9), one write", x.collect(9), true);
        checks.due("collect(1), the third write", x.collect(1), false);
        checks.due("tail", x.tail(), 10);
        Keysapart live = withKeys(3);
        live.failAfter(6);
        checks.due("collect(2), three, two and one write", live.collect(2), true);
        checks.due("checkpoint, the seventh write", live.checkpoint(), false);
    }

    private void collectMovesTail() {
        Keysapart x = withPuts(5, 20);
        x.collect(1);
        checks.due("tail", x.tail(), 1);
        x.collect(7);
        checks.due("tail where a segment begins", x.tail(), 8);
        x.collect(11);
        checks.due("tail inside another segment", x.tail(), 19);
        x.collect(1);
        checks.due("tail at last", x.tail(), 20);
        dueLog(x, 20, 21, 21);
    }

    /** Writes 0 to 2 are those of the keys, 3 and 4 those of the two again, 5 that of the tail. */
    private void collectFails() {
        int[] keysThen = {0, 1, 2, 3, 3, 3};
        for (int ahead = 0; ahead <= 5; ahead++) {
            Keysapart x = withKeys(3);
            x.failAfter(ahead);
            checks.due("collect(2)", x.collect(2), false);
            dueLog(x, 0, ahead, ahead);
            checks.due("start", x.start(), keysThen[ahead]);
            checks.due("live", x.live(), keysThen[ahead]);
            checks.due("positionOf(0)", x.positionOf(0), ahead == 0 ? NONE : ahead < 4 ? 0 : 3);
            checks.due("positionOf(1)", x.positionOf(1), ahead < 2 ? NONE : ahead < 5 ? 1 : 4);
            checks.due("positionOf(2)", x.positionOf(2), ahead < 3 ? NONE : 2);
        }
    }

    private void collectReturns() {
        Keysapart x = withKeys(3);
        x.failAfter(6);
        checks.due("collect(2) with power for all", x.collect(2), true);
        checks.due("isUp", x.isUp(), true);
        checks.due("collect(1) with power for none", x.collect(1), false);
        checks.due("isUp then", x.isUp(), false);
    }

    // ---- 11

    private void failAfterRange() {
        Keysapart x = new Keysapart();
        x.failAfter(0);
        x.failAfter(1000);
        refusedArgument("failAfter(1001)", () -> x.failAfter(1001));
        refusedArgument("failAfter(-2)", () -> x.failAfter(-2));
        refusedArgument("failAfter(MIN)", () -> x.failAfter(MIN));
        refusedArgument("failAfter(MAX)", () -> x.failAfter(MAX));
        x.failAfter(NONE);
        checks.due("checkpoint", x.checkpoint(), true);
    }

    private void failAfterNoWrite() {
        Keysapart x = withKeys(1);
        x.failAfter(0);
        checks.due("isUp with no write yet", x.isUp(), true);
        checks.due("synchronize", x.synchronize(), false);
        dueLog(x, 0, 0, 0);
        Keysapart other = withKeys(1);
        other.failAfter(1);
        checks.due("synchronize with one write ahead", other.synchronize(), true);
        checks.due("checkpoint behind it", other.checkpoint(), false);
    }

    /** 20 times 49 writes and 20 more. */
    private void failAfterMostWrites() {
        Keysapart x = withKeys(48);
        x.synchronize();
        x.failAfter(1000);
        for (int round = 0; round < 20; round++) {
            checks.due("collect(48)", x.collect(48), true);
        }
        for (int write = 981; write <= 1000; write++) {
            checks.due("checkpoint, write " + write, x.checkpoint(), true);
        }
        checks.due("checkpoint, write 1001", x.checkpoint(), false);
    }

    private void failAfterNone() {
        Keysapart x = withKeys(1);
        x.failAfter(0);
        x.failAfter(NONE);
        checks.due("checkpoint", x.checkpoint(), true);
        x.failAfter(NONE);
        checks.due("checkpoint then", x.checkpoint(), true);
    }

    private void failAfterInPlace() {
        Keysapart x = new Keysapart();
        x.failAfter(0);
        x.failAfter(2);
        checks.due("checkpoint, a later write chosen", x.checkpoint(), true);
        x.failAfter(2);
        checks.due("the first of two writes chosen anew", x.checkpoint(), true);
        checks.due("the second of two writes chosen anew", x.checkpoint(), true);
        x.failAfter(0);
        checks.due("checkpoint, an earlier write chosen", x.checkpoint(), false);
        x.start();
        checks.due("checkpoint, none of those before", x.checkpoint(), true);
    }

    private void failAfterFailed() {
        Keysapart x = withKeys(2);
        x.failAfter(1);
        checks.due("synchronize", x.synchronize(), false);
        checks.due("start", x.start(), 1);
        for (int round = 0; round < 4; round++) {
            x.put(1, round);
            checks.due("synchronize then", x.synchronize(), true);
            checks.due("checkpoint then", x.checkpoint(), true);
        }
    }

    private void failAfterCountsWrites() {
        Keysapart x = withKeys(3);
        x.failAfter(4);
        x.put(4, 40);
        x.delete(4);
        x.get(1);
        x.sum(0, 63);
        x.wouldHave();
        refusedState("collect(96)", () -> x.collect(96));
        x.crash();
        x.start();
        x.put(1, 10);
        x.put(2, 20);
        checks.due("synchronize, two writes", x.synchronize(), true);
        checks.due("synchronize, no write", x.synchronize(), true);
        checks.due("checkpoint, the third write", x.checkpoint(), true);
        x.delete(1);
        checks.due("collect(1), which fails at the fifth write", x.collect(1), false);
        dueLog(x, 0, 3, 3);
    }

    private void failAfterWhenDown() {
        Keysapart x = writtenAndDown(withKeys(2));
        x.failAfter(1);
        checks.due("isUp", x.isUp(), false);
        checks.due("start", x.start(), 2);
        checks.due("checkpoint, one write ahead", x.checkpoint(), true);
        checks.due("checkpoint, the chosen write", x.checkpoint(), false);
    }

    private void failAfterThrowsChangesNothing() {
        Keysapart x = withKeys(2);
        x.failAfter(2);
        unchanged(x, () -> {
            refusedArgument("failAfter(1001)", () -> x.failAfter(1001));
            refusedArgument("failAfter(-2)", () -> x.failAfter(-2));
        });
        checks.due("synchronize, the two writes ahead", x.synchronize(), true);
        checks.due("checkpoint, the chosen write", x.checkpoint(), false);
    }

    // ---- 12

    private void crashNoneLost() {
        Keysapart x = new Keysapart();
        checks.due("crash of an empty log", x.crash(), 0);
        x.start();
        x.put(1, 10);
        x.synchronize();
        checks.due("crash of a written log", x.crash(), 0);
        dueLog(x, 0, 1, 1);
    }

    private void crashAllLost() {
        Keysapart x = withPuts(5, 96);
        checks.due("crash", x.crash(), 96);
        dueLog(x, 0, 0, 0);
        checks.due("start", x.start(), 0);
    }

    private void crashSomeLost() {
        Keysapart x = withKeys(3);
        x.synchronize();
        x.put(3, 30);
        x.delete(0);
        checks.due("crash", x.crash(), 2);
        checks.due("isUp", x.isUp(), false);
        dueLog(x, 0, 3, 3);
        checks.due("start", x.start(), 3);
        checks.due("get(0), its mark lost", x.get(0), 0);
        checks.due("get(2), the last one kept", x.get(2), 20);
        checks.due("get(3), the first one lost", x.get(3), NONE);
    }

    private void crashIsNoWrite() {
        Keysapart x = withKeys(2);
        x.failAfter(1);
        x.crash();
        x.start();
        checks.due("checkpoint, one write ahead", x.checkpoint(), true);
        checks.due("checkpoint, the chosen write", x.checkpoint(), false);
    }

    private void crashWhenDown() {
        Keysapart x = writtenAndDown(withKeys(3));
        unchanged(x, () -> refusedState("crash", x::crash));
        checks.due("start", x.start(), 3);
    }

    // ---- 13

    private void startWritesNothing() {
        Keysapart x = writtenAndDown(withKeys(3));
        x.failAfter(0);
        checks.due("start", x.start(), 3);
        checks.due("isUp", x.isUp(), true);
        dueLog(x, 0, 3, 3);
        checks.due("checkpointAt", x.checkpointAt(), 0);
        checks.due("checkpoint, the chosen write", x.checkpoint(), false);
    }

    private void startCounts() {
        checks.due("start of none", writtenAndDown(new Keysapart()).start(), 0);
        checks.due("start of 64", writtenAndDown(withKeys(64)).start(), 64);
        checks.due("start of an empty log", writtenAndDown(emptyLogAt(96)).start(), 0);
        Keysapart x = withKeys(3);
        x.delete(1);
        x.put(2, 22);
        checks.due("start of two", writtenAndDown(x).start(), 2);
    }

    private void startHead() {
        Keysapart x = withKeys(3);
        x.synchronize();
        x.put(3, 30);
        x.crash();
        x.start();
        dueLog(x, 0, 3, 3);
        checks.due("put", x.put(4, 40), 3);
        checks.due("get(3)", x.get(3), NONE);
    }

    private void startCheckpoint() {
        Keysapart x = withKeys(3);
        x.checkpoint();
        x.crash();
        checks.due("start with no entry behind the checkpoint", x.start(), 3);
        checks.due("positionOf(0)", x.positionOf(0), 0);
        checks.due("positionOf(2)", x.positionOf(2), 2);
        x.put(0, 5);
        x.crash();
        checks.due("start again", x.start(), 3);
        checks.due("positionOf(0), as it was", x.positionOf(0), 0);
    }

    /** The keys 0 to 2 are in the checkpoint; the log then loses the values of 0 and 1. */
    private void startBelowTail() {
        Keysapart x = withKeys(3);
        x.checkpoint();
        x.delete(0);
        x.delete(1);
        x.collect(2);
        x.crash();
        checks.due("start with the marks in the log", x.start(), 1);
        checks.due("positionOf(2), at the tail", x.positionOf(2), 2);
        x.delete(2);
        x.collect(4);
        dueLog(x, 6, 6, 6);
        x.crash();
        checks.due("wouldHave with no entry", x.wouldHave(), 0);
        checks.due("start with no entry", x.start(), 0);
        checks.due("next(0)", x.next(0), NONE);
    }

    private void startFromCheckpoint() {
        Keysapart x = withKeys(3);
        x.checkpoint();
        x.put(0, 99);
        x.put(4, 40);
        x.synchronize();
        x.crash();
        checks.due("start", x.start(), 4);
        checks.due("positionOf(0), put where the checkpoint is", x.positionOf(0), 3);
        checks.due("get(0)", x.get(0), 99);
        checks.due("positionOf(4)", x.positionOf(4), 4);
    }

    /** The program's log uses the places of 0 to 7 again for 96 to 103, which are lost here. */
    private void startFromTail() {
        Keysapart x = withPuts(5, 9);
        x.collect(8);
        for (int position = 9; position < 104; position++) {
            x.put(6, position);
        }
        x.crash();
        checks.due("start with the checkpoint at 0 and the tail at 8", x.start(), 1);
        checks.due("positionOf(5), at the tail", x.positionOf(5), 8);
        checks.due("positionOf(6)", x.positionOf(6), NONE);
        Keysapart same = withKeys(2);
        same.delete(0);
        same.delete(1);
        same.checkpoint();
        same.collect(4);
        same.put(7, 70);
        checks.due("start with both at 4", writtenAndDown(same).start(), 1);
        checks.due("positionOf(7)", same.positionOf(7), 4);
    }

    private void startUpToHead() {
        Keysapart x = withKeys(3);
        x.failAfter(2);
        x.synchronize();
        checks.due("start", x.start(), 2);
        checks.due("positionOf(1), the last one written", x.positionOf(1), 1);
        checks.due("positionOf(2), the first one lost", x.positionOf(2), NONE);
    }

    private void startValuesAndMarks() {
        Keysapart x = withKeys(3);
        x.checkpoint();
        x.delete(0);
        x.put(0, 5);
        x.put(1, 6);
        x.delete(1);
        x.put(2, 0);
        x.put(3, 7);
        x.delete(3);
        checks.due("start", writtenAndDown(x).start(), 2);
        checks.due("positionOf(0), deleted and put", x.positionOf(0), 4);
        checks.due("positionOf(1), put and deleted", x.positionOf(1), NONE);
        checks.due("positionOf(2), the value 0", x.positionOf(2), 7);
        checks.due("positionOf(3), new and deleted", x.positionOf(3), NONE);
    }

    private void startKeeps() {
        Keysapart x = withKeys(3);
        x.checkpoint();
        x.collect(2);
        x.put(3, 30);
        x.crash();
        dueLog(x, 2, 5, 5);
        checks.due("checkpointAt when down", x.checkpointAt(), 3);
        checks.due("start", x.start(), 3);
        dueLog(x, 2, 5, 5);
        checks.due("checkpointAt", x.checkpointAt(), 3);
    }

    private void startWhenUp() {
        Keysapart fresh = new Keysapart();
        refusedState("start of a new object", fresh::start);
        Keysapart x = withKeys(3);
        x.checkpoint();
        x.put(3, 30);
        x.delete(0);
        unchanged(x, () -> refusedState("start", x::start));
        checks.due("get(3)", x.get(3), 30);
        checks.due("crash, still two to lose", x.crash(), 2);
    }

    // ---- 14

    private void isUp() {
        Keysapart x = new Keysapart();
        checks.due("isUp of a new object", x.isUp(), true);
        x.crash();
        checks.due("isUp after a crash", x.isUp(), false);
        x.start();
        checks.due("isUp after a start", x.isUp(), true);
        x.failAfter(0);
        checks.due("isUp with a write chosen", x.isUp(), true);
        x.synchronize();
        checks.due("isUp with no write done", x.isUp(), true);
        x.checkpoint();
        checks.due("isUp after the write", x.isUp(), false);
    }
}
