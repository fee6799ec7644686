/**
 * Promises 15 to 23: one test for each sentence that names a boundary. A test's name begins with the
 * number of the promise; behind it stands the sentence or, in brackets, where the terms say it.
 */
final class LogEdgeTests extends StoreTests {
    LogEdgeTests(Checks checks) {
        super(checks);
    }

    @Override
    void run() {
        headAndTail();
        writtenAndCheckpoint();
        positionsOfKeys();
        segmentsInUse();
        liveEntries();
        freeing();
        whatItWouldHave();
    }

    private void headAndTail() {
        checks.test("15 (log): at which the next entry is appended; 0 at first", this::headIsNext);
        checks.test("15: the written position, if the store is down", this::headWhenDown);
        checks.test("16 (log): the first position that still belongs to the log; 0 at first", this::tailIsFirst);
        checks.test("16: a store that is down", this::tailWhenDown);
    }

    private void writtenAndCheckpoint() {
        checks.test("17 (kept): the first one that is not written yet", this::writtenIsFirst);
        checks.test("17: a store that is down", this::writtenWhenDown);
        checks.test("18 (kept): the position 0 at first, the head later", this::checkpointAt);
        checks.test("18: a store that is down", this::checkpointAtWhenDown);
    }

    private void positionsOfKeys() {
        checks.test("19: key 0 to 63", this::positionOfRange);
        checks.test("19: NONE if it is not there", this::positionOfNone);
        checks.test("19: the positions 0 and 96 are there", this::positionOfFirst);
        checks.test("19: throws if the store is down", this::positionOfWhenDown);
        checks.test("19 (terms): if both apply, IllegalArgumentException", this::positionOfBothApply);
        checks.test("19 (terms): a positionOf that throws changes nothing", this::positionOfThrowsChangesNothing);
    }

    private void segmentsInUse() {
        checks.test("20: none are in use", this::segmentsNone);
        checks.test("20 (log): the positions from 8 s to 8 s + 7", this::segmentsEnds);
        checks.test("20 (log): from the tail on", this::segmentsFromTail);
        checks.test("20 (log): to the head, the head not included", this::segmentsToHead);
        checks.test("20 (log): at most 12 segments", this::segmentsMost);
        checks.test("20: a store that is down", this::segmentsWhenDown);
    }

    private void liveEntries() {
        checks.test("21: no entry is live, all are live", this::liveNoneAndAll);
        checks.test("21 (log): live, if the index has its position", this::liveInIndex);
        checks.test("21: throws if the store is down, and changes nothing", this::liveWhenDown);
    }

    private void freeing() {
        checks.test("22: from the tail on, up to the end of its segment", this::toFreeUpToEnd);
        checks.test("22: NONE if the log does not have all of them", this::toFreeNone);
        checks.test("22: to collect as many frees the segment", this::toFreeFrees);
        checks.test("22: a store that is down", this::toFreeWhenDown);
    }

    private void whatItWouldHave() {
        checks.test("23: none and all", this::wouldHaveNoneAndAll);
        checks.test("23: if the store lost its power now", this::wouldHaveWhatIsWritten);
        checks.test("23: as start() would tell, if it is down", this::wouldHaveWhenDown);
        checks.test("23 (power): without keys whose position is below the tail", this::wouldHaveBelowTail);
        checks.test("23 (power): from the position of the checkpoint on, or from the tail on", this::wouldHaveFrom);
        checks.test("23: nothing changes", this::wouldHaveChangesNothing);
    }

    // ---- 15

    private void headIsNext() {
        Keysapart x = new Keysapart();
        checks.due("head", x.head(), 0);
        checks.due("put", x.put(1, 10), 0);
        checks.due("head after a put", x.head(), 1);
        x.delete(1);
        checks.due("head after a delete", x.head(), 2);
        x.checkpoint();
        checks.due("head after a checkpoint", x.head(), 2);
        checks.due("put at the head", x.put(1, 10), 2);
        Keysapart full = withPuts(5, 96);
        checks.due("head of a full log", full.head(), 96);
    }

    private void headWhenDown() {
        Keysapart x = withKeys(3);
        x.synchronize();
        x.put(3, 30);
        checks.due("head when up", x.head(), 4);
        x.crash();
        checks.due("head when down", x.head(), 3);
        x.start();
        x.put(3, 30);
        x.put(4, 40);
        x.failAfter(1);
        x.synchronize();
        checks.due("head when a write has failed", x.head(), 4);
    }

    // ---- 16

    private void tailIsFirst() {
        Keysapart x = new Keysapart();
        checks.due("tail", x.tail(), 0);
        x.put(1, 10);
        x.put(1, 11);
        checks.due("tail after puts", x.tail(), 0);
        x.collect(1);
        checks.due("tail after a collect", x.tail(), 1);
        x.delete(1);
        x.collect(2);
        checks.due("tail of a log without entries", x.tail(), 3);
        checks.due("head of a log without entries", x.head(), 3);
    }

    private void tailWhenDown() {
        Keysapart x = withKeys(3);
        x.collect(1);
        x.crash();
        checks.due("tail", x.tail(), 1);
        x.start();
        checks.due("tail, up again", x.tail(), 1);
        x.failAfter(1);
        x.collect(1);
        checks.due("tail when its write has failed", x.tail(), 1);
    }

    // ---- 17

    private void writtenIsFirst() {
        Keysapart x = new Keysapart();
        checks.due("written", x.written(), 0);
        x.put(1, 10);
        x.put(2, 20);
        checks.due("written after puts", x.written(), 0);
        x.synchronize();
        checks.due("written, all of them", x.written(), 2);
        x.delete(1);
        checks.due("written after a delete", x.written(), 2);
        x.checkpoint();
        checks.due("written after a checkpoint", x.written(), 3);
    }

    private void writtenWhenDown() {
        Keysapart x = withKeys(3);
        x.failAfter(2);
        x.synchronize();
        checks.due("written", x.written(), 2);
        x.start();
        checks.due("written, up again", x.written(), 2);
        x.put(3, 30);
        checks.due("written with one in memory", x.written(), 2);
    }

    // ---- 18

    private void checkpointAt() {
        Keysapart x = new Keysapart();
        checks.due("checkpointAt", x.checkpointAt(), 0);
        x.put(1, 10);
        x.synchronize();
        checks.due("checkpointAt, none made", x.checkpointAt(), 0);
        x.checkpoint();
        checks.due("checkpointAt, one made", x.checkpointAt(), 1);
        x.put(1, 11);
        x.collect(2);
        checks.due("checkpointAt below the tail", x.checkpointAt(), 1);
        checks.due("tail", x.tail(), 2);
        x.checkpoint();
        checks.due("checkpointAt, another one made", x.checkpointAt(), 3);
    }

    private void checkpointAtWhenDown() {
        Keysapart x = withKeys(3);
        x.checkpoint();
        x.put(3, 30);
        x.failAfter(1);
        x.checkpoint();
        checks.due("checkpointAt when its write has failed", x.checkpointAt(), 3);
        x.start();
        checks.due("checkpointAt, up again", x.checkpointAt(), 3);
    }

    // ---- 19

    private void positionOfRange() {
        Keysapart x = withKeys(64);
        checks.due("positionOf(0)", x.positionOf(0), 0);
        checks.due("positionOf(63)", x.positionOf(63), 63);
        refusedArgument("positionOf(-1)", () -> x.positionOf(-1));
        refusedArgument("positionOf(64)", () -> x.positionOf(64));
        refusedArgument("positionOf(MIN)", () -> x.positionOf(MIN));
        refusedArgument("positionOf(MAX)", () -> x.positionOf(MAX));
    }

    private void positionOfNone() {
        Keysapart x = withKeys(2);
        x.synchronize();
        checks.due("positionOf a key that never was there", x.positionOf(2), NONE);
        x.delete(1);
        checks.due("positionOf a key that is deleted", x.positionOf(1), NONE);
        x.put(2, 20);
        checks.due("positionOf a key in memory", x.positionOf(2), 3);
        x.crash();
        x.start();
        checks.due("positionOf a key that is lost", x.positionOf(2), NONE);
        checks.due("positionOf a key whose mark is lost", x.positionOf(1), 1);
    }

    private void positionOfFirst() {
        Keysapart x = withPuts(5, 1);
        checks.due("positionOf(5)", x.positionOf(5), 0);
        for (int position = 1; position < 96; position++) {
            x.put(6, position);
        }
        checks.due("positionOf(6)", x.positionOf(6), 95);
        checks.due("positionOf(5), still at 0", x.positionOf(5), 0);
        Keysapart later = withPuts(5, 96);
        later.collect(95);
        checks.due("positionOf(5), at 95", later.positionOf(5), 95);
        later.collect(1);
        checks.due("positionOf(5), at 96", later.positionOf(5), 96);
        checks.due("get(5)", later.get(5), 95);
    }

    private void positionOfWhenDown() {
        Keysapart x = writtenAndDown(withKeys(3));
        refusedState("positionOf(2)", () -> x.positionOf(2));
        x.start();
        checks.due("positionOf(2), up again", x.positionOf(2), 2);
    }

    private void positionOfBothApply() {
        Keysapart x = writtenAndDown(withKeys(3));
        refusedArgument("positionOf(-1)", () -> x.positionOf(-1));
        refusedArgument("positionOf(64)", () -> x.positionOf(64));
    }

    private void positionOfThrowsChangesNothing() {
        Keysapart x = withKeys(3);
        x.failAfter(3);
        unchanged(x, () -> refusedArgument("positionOf(64)", () -> x.positionOf(64)));
        checks.due("synchronize, the three writes ahead", x.synchronize(), true);
        x.crash();
        unchanged(x, () -> refusedState("positionOf(0), down", () -> x.positionOf(0)));
        checks.due("start", x.start(), 3);
        checks.due("checkpoint, the chosen write", x.checkpoint(), false);
    }

    // ---- 20

    private void segmentsNone() {
        checks.due("segments of a new object", new Keysapart().segments(), 0);
        checks.due("segments with tail and head at 7", emptyLogAt(7).segments(), 0);
        checks.due("segments with tail and head at 8", emptyLogAt(8).segments(), 0);
        checks.due("segments with tail and head at 9", emptyLogAt(9).segments(), 0);
    }

    private void segmentsEnds() {
        for (int count = 1; count <= 96; count++) {
            int due = count <= 8 ? 1 : count <= 16 ? 2 : (count - 1) / 8 + 1;
            checks.due("segments of " + count, withPuts(5, count).segments(), due);
        }
    }

    private void segmentsFromTail() {
        Keysapart x = withPuts(5, 20);
        x.synchronize();
        checks.due("segments, tail 0", x.segments(), 3);
        x.collect(7);
        checks.due("segments, tail 7", x.segments(), 3);
        x.collect(1);
        checks.due("segments, tail 8", x.segments(), 2);
        x.collect(7);
        checks.due("segments, tail 15", x.segments(), 2);
        x.collect(1);
        checks.due("segments, tail 16", x.segments(), 1);
    }

    private void segmentsToHead() {
        Keysapart x = emptyLogAt(7);
        x.put(5, 5);
        checks.due("segments, tail 7, head 8", x.segments(), 1);
        x.put(5, 5);
        checks.due("segments, tail 7, head 9", x.segments(), 2);
        Keysapart other = emptyLogAt(8);
        for (int position = 8; position < 16; position++) {
            other.put(5, 5);
            checks.due("segments, tail 8", other.segments(), 1);
        }
        other.put(5, 5);
        checks.due("segments, tail 8, head 17", other.segments(), 2);
    }

    private void segmentsMost() {
        checks.due("segments of 88", withPuts(5, 88).segments(), 11);
        checks.due("segments of 89", withPuts(5, 89).segments(), 12);
        Keysapart x = withPuts(5, 96);
        checks.due("segments of 96", x.segments(), 12);
        x.collect(7);
        refusedState("put with the tail at 7", () -> x.put(5, 5));
        checks.due("segments with the tail at 7", x.segments(), 12);
        x.collect(1);
        checks.due("segments with the tail at 8", x.segments(), 11);
        x.put(5, 5);
        checks.due("segments with the head at 97", x.segments(), 12);
    }

    private void segmentsWhenDown() {
        Keysapart x = withPuts(5, 8);
        x.synchronize();
        x.put(5, 5);
        checks.due("segments when up", x.segments(), 2);
        x.crash();
        checks.due("segments when down", x.segments(), 1);
        Keysapart none = withPuts(5, 8);
        none.crash();
        checks.due("segments when all is lost", none.segments(), 0);
    }

    // ---- 21

    private void liveNoneAndAll() {
        Keysapart none = new Keysapart();
        checks.due("live of a new object", none.live(), 0);
        none.put(5, 5);
        none.delete(5);
        checks.due("live of a value and its mark", none.live(), 0);
        checks.due("live of a log without entries", emptyLogAt(96).live(), 0);
        checks.due("live of 64", withKeys(64).live(), 64);
        checks.due("live of 96 for one key", withPuts(5, 96).live(), 1);
    }

    private void liveInIndex() {
        Keysapart x = withKeys(3);
        x.put(0, 0);
        checks.due("live with the same value put again", x.live(), 3);
        x.delete(1);
        checks.due("live with a mark", x.live(), 2);
        x.collect(3);
        checks.due("live at new positions", x.live(), 2);
        x.put(7, 70);
        checks.due("live with one in memory", x.live(), 3);
        x.crash();
        x.start();
        checks.due("live after a start", x.live(), 2);
    }

    private void liveWhenDown() {
        Keysapart x = writtenAndDown(withKeys(3));
        unchanged(x, () -> refusedState("live", x::live));
        x.start();
        checks.due("live, up again", x.live(), 3);
    }

    // ---- 22

    private void toFreeUpToEnd() {
        Keysapart x = withPuts(5, 20);
        x.synchronize();
        int[] due = {8, 7, 6, 5, 4, 3, 2, 1, 8, 7, 6};
        for (int tail = 0; tail < due.length; tail++) {
            checks.due("toFree, tail " + tail, x.toFree(), due[tail]);
            x.collect(1);
        }
    }

    private void toFreeNone() {
        checks.due("toFree of a new object", new Keysapart().toFree(), NONE);
        checks.due("toFree of 7", withPuts(5, 7).toFree(), NONE);
        checks.due("toFree of 8", withPuts(5, 8).toFree(), 8);
        checks.due("toFree of 9", withPuts(5, 9).toFree(), 8);
        checks.due("toFree of 96", withPuts(5, 96).toFree(), 8);
        Keysapart atEnd = emptyLogAt(7);
        checks.due("toFree, tail and head at 7", atEnd.toFree(), NONE);
        atEnd.put(5, 5);
        checks.due("toFree, tail 7, head 8", atEnd.toFree(), 1);
        Keysapart atBegin = emptyLogAt(8);
        checks.due("toFree, tail and head at 8", atBegin.toFree(), NONE);
        for (int position = 8; position < 15; position++) {
            atBegin.put(5, 5);
        }
        checks.due("toFree, tail 8, head 15", atBegin.toFree(), NONE);
        atBegin.put(5, 5);
        checks.due("toFree, tail 8, head 16", atBegin.toFree(), 8);
    }

    private void toFreeFrees() {
        Keysapart x = withPuts(5, 16);
        x.synchronize();
        x.collect(3);
        checks.due("segments", x.segments(), 2);
        checks.due("toFree", x.toFree(), 5);
        checks.due("collect(4), one less", x.collect(4), true);
        checks.due("segments then", x.segments(), 2);
        checks.due("toFree then", x.toFree(), 1);
        checks.due("collect(1)", x.collect(1), true);
        checks.due("segments, one freed", x.segments(), 1);
        checks.due("tail", x.tail(), 8);
    }

    private void toFreeWhenDown() {
        Keysapart x = withPuts(5, 7);
        x.synchronize();
        x.put(5, 5);
        checks.due("toFree with the last one in memory", x.toFree(), 8);
        x.crash();
        checks.due("toFree with the last one lost", x.toFree(), NONE);
        checks.due("toFree when down", writtenAndDown(withPuts(5, 8)).toFree(), 8);
    }

    // ---- 23

    private void wouldHaveNoneAndAll() {
        checks.due("wouldHave of a new object", new Keysapart().wouldHave(), 0);
        Keysapart x = withKeys(64);
        checks.due("wouldHave, none written", x.wouldHave(), 0);
        x.synchronize();
        checks.due("wouldHave, all written", x.wouldHave(), 64);
        x.checkpoint();
        checks.due("wouldHave, all in a checkpoint", x.wouldHave(), 64);
        Keysapart empty = emptyLogAt(96);
        checks.due("wouldHave, a log without entries", empty.wouldHave(), 0);
    }

    private void wouldHaveWhatIsWritten() {
        Keysapart x = withKeys(3);
        x.synchronize();
        x.put(3, 30);
        checks.due("wouldHave with a value in memory", x.wouldHave(), 3);
        x.delete(0);
        x.delete(1);
        checks.due("wouldHave with marks in memory", x.wouldHave(), 3);
        x.synchronize();
        checks.due("wouldHave with all written", x.wouldHave(), 2);
    }

    private void wouldHaveWhenDown() {
        for (int ahead = 0; ahead < 5; ahead++) {
            Keysapart x = withKeys(3);
            x.delete(1);
            x.put(4, 40);
            x.failAfter(ahead);
            x.synchronize();
            int due = ahead < 4 ? ahead : 2;
            checks.due("wouldHave", x.wouldHave(), due);
            checks.due("start", x.start(), due);
        }
    }

    private void wouldHaveBelowTail() {
        Keysapart x = withKeys(3);
        x.checkpoint();
        x.delete(0);
        x.delete(1);
        x.collect(2);
        checks.due("wouldHave, the key 2 at the tail", x.wouldHave(), 1);
        x.delete(2);
        x.collect(4);
        checks.due("wouldHave, all keys of the checkpoint below the tail", x.wouldHave(), 0);
        x.crash();
        checks.due("wouldHave when down", x.wouldHave(), 0);
    }

    private void wouldHaveFrom() {
        Keysapart x = withKeys(2);
        x.checkpoint();
        x.put(2, 20);
        x.synchronize();
        checks.due("wouldHave with one entry behind the checkpoint", x.wouldHave(), 3);
        Keysapart round = withPuts(5, 9);
        round.collect(8);
        for (int position = 9; position < 104; position++) {
            round.put(6, position);
        }
        checks.due("wouldHave with the tail behind the checkpoint", round.wouldHave(), 1);
    }

    private void wouldHaveChangesNothing() {
        Keysapart x = withKeys(3);
        x.checkpoint();
        x.put(0, 5);
        x.delete(1);
        x.failAfter(2);
        unchanged(x, () -> checks.due("wouldHave", x.wouldHave(), 3));
        checks.due("get(0)", x.get(0), 5);
        checks.due("synchronize, the two writes ahead", x.synchronize(), true);
        checks.due("checkpoint, the chosen write", x.checkpoint(), false);
        unchanged(x, () -> checks.due("wouldHave when down", x.wouldHave(), 2));
        refusedState("get(0) when down", () -> x.get(0));
        checks.due("start", x.start(), 2);
    }
}
