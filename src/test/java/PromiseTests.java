/** For each promise: ordinary inputs and the edges that the document names. */
final class PromiseTests extends StoreTests {
    PromiseTests(Checks checks) {
        super(checks);
    }

    @Override
    void run() {
        checks.test("1: a new object is empty and up", this::newObject);
        checks.test("1: power does not fail in a new object", this::newObjectHasPower);
        checks.test("2: put appends", this::put);
        checks.test("2: put at the 13th segment", this::putAtTheLimit);
        checks.test("2: the limit moves by whole segments", this::limitMovesBySegments);
        checks.test("3: delete", this::delete);
        checks.test("3: delete appends, and needs room", this::deleteNeedsRoom);
        checks.test("4: get", this::get);
        checks.test("5: next", this::next);
        checks.test("6: sum", this::sum);
        checks.test("7: fetches", this::fetches);
        checks.test("7: fetches when the log has gone round", this::fetchesLater);
        checks.test("8: synchronize", this::synchronize);
        checks.test("8: synchronize writes one by one", this::synchronizeOneByOne);
        checks.test("9: checkpoint", this::checkpoint);
        checks.test("9: checkpoint is one write behind the entries", this::checkpointWrites);
        checks.test("9: the checkpoint's index is that of its time", this::checkpointIsACopy);
        checks.test("10: collect", this::collect);
        checks.test("10: collect appends in order of positions", this::collectOrder);
        checks.test("10: collect entries that are not written", this::collectUnwritten);
        checks.test("10: collect all entries", this::collectAll);
        checks.test("10: power fails in collect", this::collectFails);
        checks.test("10: collect where there is no room", this::collectNeedsRoom);
        checks.test("11: failAfter", this::failAfter);
        checks.test("11: failAfter is chosen anew, and ends", this::failAfterChosenAnew);
        checks.test("11: failAfter outlasts a crash", this::failAfterOutlastsCrash);
        checks.test("12: crash", this::crash);
        checks.test("13: start goes through the log", this::start);
        checks.test("13: start behind a tail that is past the checkpoint", this::startFromTail);
        checks.test("13: start goes through nothing below the tail", this::startNotBelowTail);
        checks.test("13: start drops what is below the tail", this::startDropsBelowTail);
        checks.test("14: isUp", this::isUp);
        checks.test("15 to 17: head, tail, written", this::positions);
        checks.test("18: checkpointAt", this::checkpointAt);
        checks.test("19: positionOf", this::positionOf);
        checks.test("20: segments", this::segments);
        checks.test("21: live", this::live);
        checks.test("22: toFree", this::toFree);
        checks.test("23: wouldHave", this::wouldHave);
        checks.test("23: wouldHave changes nothing", this::wouldHaveChangesNothing);
    }

    private void newObject() {
        Keysapart x = new Keysapart();
        checks.due("isUp", x.isUp(), true);
        dueLog(x, 0, 0, 0);
        checks.due("checkpointAt", x.checkpointAt(), 0);
        checks.due("next(0)", x.next(0), NONE);
        checks.due("positionOf(0)", x.positionOf(0), NONE);
        checks.due("positionOf(63)", x.positionOf(63), NONE);
        checks.due("live", x.live(), 0);
        checks.due("segments", x.segments(), 0);
        checks.due("toFree", x.toFree(), NONE);
        checks.due("wouldHave", x.wouldHave(), 0);
        checks.due("sum(0, 63)", x.sum(0, 63), 0);
        checks.due("fetches(0, 63)", x.fetches(0, 63), 0);
        Keysapart other = new Keysapart();
        x.put(1, 1);
        checks.due("another object's head", other.head(), 0);
    }

    private void newObjectHasPower() {
        Keysapart x = new Keysapart();
        checks.due("checkpoint", x.checkpoint(), true);
        for (int round = 0; round < 40; round++) {
            x.put(round, round);
            checks.due("synchronize", x.synchronize(), true);
        }
    }

    private void put() {
        Keysapart x = new Keysapart();
        checks.due("put(0, 0)", x.put(0, 0), 0);
        checks.due("put(63, 9999)", x.put(63, 9999), 1);
        checks.due("put(0, 9999)", x.put(0, 9999), 2);
        checks.due("get(0)", x.get(0), 9999);
        checks.due("get(63)", x.get(63), 9999);
        checks.due("positionOf(0)", x.positionOf(0), 2);
        checks.due("positionOf(63)", x.positionOf(63), 1);
        dueLog(x, 0, 0, 3);
        checks.due("put of the same value", x.put(63, 9999), 3);
    }

    private void putAtTheLimit() {
        Keysapart x = withPuts(5, 95);
        checks.due("the 96th put", x.put(6, 7), 95);
        checks.due("segments", x.segments(), 12);
        checks.throwsDue("the 97th put", Checks.STATE, () -> x.put(5, 1));
        checks.due("get(5)", x.get(5), 94);
        checks.due("head", x.head(), 96);
        checks.due("positionOf(5)", x.positionOf(5), 94);
    }

    private void limitMovesBySegments() {
        Keysapart x = withPuts(5, 90);
        x.collect(7);
        checks.due("head after collecting dead entries", x.head(), 90);
        for (int k = 0; k < 6; k++) {
            x.put(5, k);
        }
        checks.throwsDue("put with the tail at 7", Checks.STATE, () -> x.put(5, 1));
        x.collect(1);
        for (int k = 0; k < 8; k++) {
            checks.due("put with the tail at 8", x.put(k, k), 96 + k);
        }
        checks.throwsDue("put at 104", Checks.STATE, () -> x.put(5, 1));
        checks.due("get(0)", x.get(0), 0);
        checks.due("get(7)", x.get(7), 7);
    }

    private void delete() {
        Keysapart x = withKeys(4);
        x.put(2, 77);
        checks.due("delete(2)", x.delete(2), 77);
        checks.due("get(2)", x.get(2), NONE);
        checks.due("positionOf(2)", x.positionOf(2), NONE);
        checks.due("head", x.head(), 6);
        checks.due("live", x.live(), 3);
        checks.throwsDue("delete(2) again", Checks.STATE, () -> x.delete(2));
        checks.due("head then", x.head(), 6);
        checks.due("delete of the value 0", x.delete(0), 0);
        checks.due("put(2, 5)", x.put(2, 5), 7);
        checks.due("get(2) then", x.get(2), 5);
    }

    private void deleteNeedsRoom() {
        Keysapart x = withPuts(5, 95);
        x.put(6, 60);
        checks.throwsDue("delete(5)", Checks.STATE, () -> x.delete(5));
        checks.due("get(5)", x.get(5), 94);
        checks.due("head", x.head(), 96);
        x.collect(8);
        checks.due("delete(5) then", x.delete(5), 94);
        checks.due("head then", x.head(), 97);
    }

    private void get() {
        Keysapart x = new Keysapart();
        checks.due("get(9)", x.get(9), NONE);
        x.put(9, 0);
        checks.due("get(9) of 0", x.get(9), 0);
        checks.due("get(8)", x.get(8), NONE);
        x.put(9, 4321);
        checks.due("get(9) unwritten", x.get(9), 4321);
        x.synchronize();
        checks.due("get(9) written", x.get(9), 4321);
        checks.due("head", x.head(), 2);
    }

    private void next() {
        Keysapart x = new Keysapart();
        x.put(0, 1);
        x.put(40, 1);
        x.put(63, 1);
        x.put(50, 1);
        x.delete(50);
        checks.due("next(0)", x.next(0), 0);
        checks.due("next(1)", x.next(1), 40);
        checks.due("next(40)", x.next(40), 40);
        checks.due("next(41)", x.next(41), 63);
        checks.due("next(63)", x.next(63), 63);
        x.delete(63);
        checks.due("next(41) then", x.next(41), NONE);
        checks.due("next(63) then", x.next(63), NONE);
    }

    private void sum() {
        Keysapart x = withKeys(64);
        checks.due("sum(0, 63)", x.sum(0, 63), 20160);
        checks.due("sum(3, 5)", x.sum(3, 5), 120);
        checks.due("sum(63, 63)", x.sum(63, 63), 630);
        checks.due("sum(0, 0)", x.sum(0, 0), 0);
        x.delete(4);
        x.put(5, 9999);
        checks.due("sum(3, 5) then", x.sum(3, 5), 10029);
        Keysapart most = new Keysapart();
        for (int key = 0; key < 64; key++) {
            most.put(key, 9999);
        }
        checks.due("the largest sum", most.sum(0, 63), 639936);
    }

    private void fetches() {
        Keysapart x = withKeys(17);
        checks.due("fetches(0, 7)", x.fetches(0, 7), 1);
        checks.due("fetches(7, 8)", x.fetches(7, 8), 2);
        checks.due("fetches(0, 63)", x.fetches(0, 63), 3);
        checks.due("fetches(16, 16)", x.fetches(16, 16), 1);
        checks.due("fetches(17, 63)", x.fetches(17, 63), 0);
        x.synchronize();
        checks.due("fetches(7, 8) written", x.fetches(7, 8), 2);
        for (int key = 0; key < 8; key++) {
            x.put(key, key);
        }
        checks.due("fetches(0, 6) moved", x.fetches(0, 6), 1);
        checks.due("fetches(0, 7) moved", x.fetches(0, 7), 2);
        checks.due("fetches(0, 63) moved", x.fetches(0, 63), 3);
        x.delete(16);
        checks.due("fetches(16, 16) deleted", x.fetches(16, 16), 0);
    }

    private void fetchesLater() {
        Keysapart x = withPuts(0, 94);
        x.collect(93);
        for (int key = 1; key < 64; key++) {
            x.put(key, key);
        }
        checks.due("positionOf(0)", x.positionOf(0), 93);
        checks.due("positionOf(63)", x.positionOf(63), 156);
        checks.due("fetches(0, 63)", x.fetches(0, 63), 9);
        checks.due("fetches(0, 2)", x.fetches(0, 2), 1);
        checks.due("fetches(0, 3)", x.fetches(0, 3), 2);
        checks.due("get(0)", x.get(0), 93);
        checks.due("sum(0, 63)", x.sum(0, 63), 2016 + 93);
    }

    private void synchronize() {
        Keysapart x = withKeys(3);
        checks.due("written", x.written(), 0);
        checks.due("synchronize", x.synchronize(), true);
        dueLog(x, 0, 3, 3);
        checks.due("checkpointAt", x.checkpointAt(), 0);
        x.failAfter(0);
        checks.due("synchronize with nothing to write", x.synchronize(), true);
        x.put(1, 1);
        checks.due("synchronize with one to write", x.synchronize(), false);
        checks.due("isUp", x.isUp(), false);
        dueLog(x, 0, 3, 3);
    }

    private void synchronizeOneByOne() {
        for (int ahead = 0; ahead < 5; ahead++) {
            Keysapart x = withKeys(5);
            x.failAfter(ahead);
            checks.due("synchronize", x.synchronize(), false);
            dueLog(x, 0, ahead, ahead);
            checks.due("start", x.start(), ahead);
            checks.due("next", x.next(0), ahead == 0 ? NONE : 0);
            checks.due("sum", x.sum(0, 63), 5 * ahead * (ahead - 1));
        }
        Keysapart x = withKeys(5);
        x.failAfter(5);
        checks.due("synchronize with power for all", x.synchronize(), true);
        x.put(1, 1);
        checks.due("synchronize then", x.synchronize(), false);
    }

    private void checkpoint() {
        Keysapart x = withKeys(3);
        checks.due("checkpoint", x.checkpoint(), true);
        checks.due("checkpointAt", x.checkpointAt(), 3);
        dueLog(x, 0, 3, 3);
        x.put(1, 11);
        x.delete(2);
        checks.due("wouldHave", x.wouldHave(), 3);
        x.synchronize();
        checks.due("wouldHave then", x.wouldHave(), 2);
        checks.due("checkpointAt then", x.checkpointAt(), 3);
        x.crash();
        checks.due("start", x.start(), 2);
        checks.due("get(1)", x.get(1), 11);
        checks.due("get(2)", x.get(2), NONE);
    }

    private void checkpointWrites() {
        for (int ahead = 0; ahead < 4; ahead++) {
            Keysapart x = withKeys(3);
            x.failAfter(ahead);
            checks.due("checkpoint", x.checkpoint(), false);
            checks.due("isUp", x.isUp(), false);
            checks.due("checkpointAt", x.checkpointAt(), 0);
            dueLog(x, 0, ahead, ahead);
            checks.due("start", x.start(), ahead);
        }
        Keysapart x = withKeys(3);
        x.failAfter(4);
        checks.due("checkpoint", x.checkpoint(), true);
        checks.due("checkpoint at the same place", x.checkpoint(), false);
        checks.due("checkpointAt", x.checkpointAt(), 3);
    }

    private void checkpointIsACopy() {
        Keysapart x = new Keysapart();
        x.put(1, 10);
        x.put(2, 20);
        x.checkpoint();
        x.delete(1);
        x.put(2, 21);
        x.crash();
        checks.due("start", x.start(), 2);
        checks.due("get(1)", x.get(1), 10);
        checks.due("get(2)", x.get(2), 20);
        checks.due("positionOf(2)", x.positionOf(2), 1);
    }

    private void collect() {
        Keysapart x = new Keysapart();
        x.put(1, 10);
        x.put(2, 20);
        x.put(1, 11);
        x.delete(2);
        x.put(3, 30);
        checks.due("collect(1)", x.collect(1), true);
        dueLog(x, 1, 5, 5);
        checks.due("collect(2)", x.collect(2), true);
        dueLog(x, 3, 6, 6);
        checks.due("positionOf(1)", x.positionOf(1), 5);
        checks.due("get(1)", x.get(1), 11);
        checks.due("collect of the mark", x.collect(1), true);
        dueLog(x, 4, 6, 6);
        checks.due("get(2)", x.get(2), NONE);
        checks.due("get(3)", x.get(3), 30);
        checks.due("checkpointAt", x.checkpointAt(), 0);
    }

    private void collectOrder() {
        Keysapart x = new Keysapart();
        x.put(9, 90);
        x.put(3, 30);
        x.put(6, 60);
        x.put(3, 31);
        x.collect(3);
        checks.due("positionOf(9)", x.positionOf(9), 4);
        checks.due("positionOf(6)", x.positionOf(6), 5);
        checks.due("positionOf(3)", x.positionOf(3), 3);
        dueLog(x, 3, 6, 6);
        checks.due("sum", x.sum(0, 63), 181);
    }

    private void collectUnwritten() {
        Keysapart x = withKeys(4);
        x.failAfter(7);
        checks.due("collect", x.collect(2), true);
        dueLog(x, 2, 6, 6);
        checks.due("get(0)", x.get(0), 0);
        checks.due("positionOf(1)", x.positionOf(1), 5);
        checks.due("checkpoint, the write behind the seven", x.checkpoint(), false);
    }

    private void collectAll() {
        Keysapart x = withKeys(3);
        x.delete(0);
        x.delete(1);
        x.delete(2);
        checks.due("collect(6)", x.collect(6), true);
        dueLog(x, 6, 6, 6);
        checks.due("segments", x.segments(), 0);
        checks.due("toFree", x.toFree(), NONE);
        checks.throwsDue("collect(1)", Checks.STATE, () -> x.collect(1));
        Keysapart full = withPuts(5, 96);
        checks.throwsDue("collect(96) with one live", Checks.STATE, () -> full.collect(96));
        checks.due("collect(95)", full.collect(95), true);
        checks.due("collect of the live one", full.collect(1), true);
        dueLog(full, 96, 97, 97);
        checks.due("get(5)", full.get(5), 95);
    }

    private void collectFails() {
        for (int ahead = 0; ahead < 7; ahead++) {
            Keysapart x = withKeys(4);
            x.failAfter(ahead);
            checks.due("collect", x.collect(2), false);
            checks.due("isUp", x.isUp(), false);
            dueLog(x, 0, ahead, ahead);
            checks.due("start", x.start(), Math.min(ahead, 4));
            checks.due("positionOf(0)", x.positionOf(0), ahead == 0 ? NONE : ahead >= 5 ? 4 : 0);
            checks.due("positionOf(1)", x.positionOf(1), ahead <= 1 ? NONE : ahead == 6 ? 5 : 1);
        }
    }

    private void collectNeedsRoom() {
        Keysapart x = withKeys(64);
        for (int k = 0; k < 22; k++) {
            x.put(63, k);
        }
        x.failAfter(0);
        checks.throwsDue("collect(11) with room for 10", Checks.STATE, () -> x.collect(11));
        checks.throwsDue("collect(87) of 86", Checks.STATE, () -> x.collect(87));
        checks.due("isUp", x.isUp(), true);
        dueLog(x, 0, 0, 86);
        checks.due("positionOf(0)", x.positionOf(0), 0);
        x.failAfter(NONE);
        checks.due("collect(10)", x.collect(10), true);
        dueLog(x, 10, 96, 96);
        checks.due("sum(0, 9)", x.sum(0, 9), 450);
        checks.throwsDue("collect(9) with room for 8", Checks.STATE, () -> x.collect(9));
        checks.due("collect(8)", x.collect(8), true);
        dueLog(x, 18, 104, 104);
        checks.due("sum(0, 62)", x.sum(0, 62), 19530);
    }

    private void failAfter() {
        Keysapart x = withKeys(2);
        x.failAfter(3);
        checks.due("synchronize", x.synchronize(), true);
        checks.due("checkpoint", x.checkpoint(), true);
        checks.due("the next checkpoint", x.checkpoint(), false);
        Keysapart most = new Keysapart();
        most.failAfter(1000);
        for (int round = 0; round < 500; round++) {
            if (!most.checkpoint()) {
                checks.wrong("power failed at write " + round);
            }
        }
        Keysapart unfailing = new Keysapart();
        unfailing.failAfter(NONE);
        checks.due("checkpoint with no failure", unfailing.checkpoint(), true);
    }

    private void failAfterChosenAnew() {
        Keysapart x = withKeys(2);
        x.failAfter(0);
        x.failAfter(2);
        checks.due("synchronize", x.synchronize(), true);
        x.failAfter(NONE);
        checks.due("checkpoint", x.checkpoint(), true);
        x.failAfter(1);
        checks.due("checkpoint with one ahead", x.checkpoint(), true);
        checks.throwsDue("failAfter(1001)", Checks.ARGUMENT, () -> x.failAfter(1001));
        checks.due("checkpoint that fails", x.checkpoint(), false);
        checks.due("start", x.start(), 2);
        for (int round = 0; round < 5; round++) {
            checks.due("checkpoint when it has failed", x.checkpoint(), true);
        }
        x.crash();
        x.failAfter(0);
        x.start();
        checks.due("checkpoint, chosen when down", x.checkpoint(), false);
    }

    private void failAfterOutlastsCrash() {
        Keysapart x = withKeys(2);
        x.failAfter(1);
        x.crash();
        checks.due("start", x.start(), 0);
        x.put(1, 1);
        x.put(2, 2);
        checks.due("synchronize", x.synchronize(), false);
        dueLog(x, 0, 1, 1);
        checks.due("start then", x.start(), 1);
    }

    private void crash() {
        Keysapart x = withKeys(3);
        x.synchronize();
        x.put(7, 7);
        x.delete(0);
        checks.due("crash", x.crash(), 2);
        checks.due("isUp", x.isUp(), false);
        dueLog(x, 0, 3, 3);
        x.start();
        checks.due("get(0)", x.get(0), 0);
        checks.due("get(7)", x.get(7), NONE);
        checks.due("crash with nothing lost", x.crash(), 0);
        x.start();
        checks.due("put", x.put(8, 8), 3);
        checks.due("crash then", x.crash(), 1);
    }

    private void start() {
        Keysapart x = withKeys(4);
        x.checkpoint();
        x.put(1, 11);
        x.delete(2);
        x.put(9, 90);
        x.delete(9);
        x.delete(3);
        x.put(3, 33);
        x.synchronize();
        x.put(5, 5);
        x.crash();
        x.failAfter(0);
        checks.due("start", x.start(), 3);
        checks.due("isUp", x.isUp(), true);
        dueLog(x, 0, 10, 10);
        checks.due("checkpointAt", x.checkpointAt(), 4);
        checks.due("positionOf(0)", x.positionOf(0), 0);
        checks.due("positionOf(1)", x.positionOf(1), 4);
        checks.due("get(2)", x.get(2), NONE);
        checks.due("get(3)", x.get(3), 33);
        checks.due("get(9)", x.get(9), NONE);
        checks.due("get(5)", x.get(5), NONE);
    }

    private void startFromTail() {
        Keysapart x = withKeys(2);
        x.checkpoint();
        x.put(2, 20);
        x.put(3, 30);
        x.delete(0);
        x.collect(5);
        dueLog(x, 5, 8, 8);
        x.crash();
        checks.due("start", x.start(), 3);
        checks.due("get(0)", x.get(0), NONE);
        checks.due("positionOf(1)", x.positionOf(1), 5);
        checks.due("positionOf(3)", x.positionOf(3), 7);
        checks.due("sum", x.sum(0, 63), 60);
    }

    /** The log goes round here: the entries from 96 on could be taken for those from 0 on. */
    private void startNotBelowTail() {
        Keysapart x = withPuts(5, 9);
        x.collect(8);
        for (int k = 9; k < 104; k++) {
            x.put(6, k);
        }
        checks.due("wouldHave", x.wouldHave(), 1);
        x.crash();
        checks.due("start", x.start(), 1);
        checks.due("positionOf(5)", x.positionOf(5), 8);
        checks.due("get(5)", x.get(5), 8);
        checks.due("get(6)", x.get(6), NONE);
    }

    private void startDropsBelowTail() {
        Keysapart x = withKeys(3);
        x.checkpoint();
        x.delete(0);
        x.collect(1);
        checks.due("wouldHave with the mark in the log", x.wouldHave(), 2);
        x.put(1, 11);
        x.collect(1);
        x.crash();
        checks.due("start", x.start(), 2);
        checks.due("get(0)", x.get(0), NONE);
        checks.due("get(1)", x.get(1), 11);
        checks.due("positionOf(2), at the tail", x.positionOf(2), 2);
        x.delete(1);
        x.delete(2);
        x.collect(x.head() - x.tail());
        x.crash();
        checks.due("start with an empty log", x.start(), 0);
    }

    private void isUp() {
        Keysapart x = withKeys(1);
        checks.due("isUp", x.isUp(), true);
        x.crash();
        checks.due("isUp after a crash", x.isUp(), false);
        x.start();
        checks.due("isUp after a start", x.isUp(), true);
        x.failAfter(0);
        checks.due("isUp with a failure chosen", x.isUp(), true);
        x.checkpoint();
        checks.due("isUp after the failure", x.isUp(), false);
    }

    private void positions() {
        Keysapart x = withKeys(6);
        dueLog(x, 0, 0, 6);
        x.synchronize();
        dueLog(x, 0, 6, 6);
        x.put(1, 1);
        dueLog(x, 0, 6, 7);
        x.collect(3);
        dueLog(x, 3, 9, 9);
        x.put(1, 2);
        x.crash();
        dueLog(x, 3, 9, 9);
        x.start();
        dueLog(x, 3, 9, 9);
    }

    private void checkpointAt() {
        Keysapart x = withKeys(6);
        x.synchronize();
        checks.due("checkpointAt", x.checkpointAt(), 0);
        x.checkpoint();
        checks.due("checkpointAt then", x.checkpointAt(), 6);
        x.put(1, 1);
        x.put(2, 2);
        x.collect(4);
        checks.due("checkpointAt after collect", x.checkpointAt(), 6);
        x.crash();
        checks.due("checkpointAt when down", x.checkpointAt(), 6);
        x.start();
        x.checkpoint();
        checks.due("checkpointAt at last", x.checkpointAt(), 10);
    }

    private void positionOf() {
        Keysapart x = withKeys(3);
        checks.due("positionOf(0)", x.positionOf(0), 0);
        checks.due("positionOf(2)", x.positionOf(2), 2);
        checks.due("positionOf(3)", x.positionOf(3), NONE);
        x.put(0, 5);
        checks.due("positionOf(0) then", x.positionOf(0), 3);
        x.delete(0);
        checks.due("positionOf(0) deleted", x.positionOf(0), NONE);
    }

    private void segments() {
        Keysapart x = withPuts(1, 8);
        checks.due("segments of 8", x.segments(), 1);
        x.put(1, 1);
        checks.due("segments of 9", x.segments(), 2);
        x.collect(7);
        checks.due("segments from 7 to 9", x.segments(), 2);
        x.collect(1);
        checks.due("segments from 8 to 9", x.segments(), 1);
        for (int k = 0; k < 8; k++) {
            x.put(1, k);
        }
        checks.due("segments from 8 to 17", x.segments(), 2);
        x.crash();
        checks.due("segments when down", x.segments(), 1);
        x.start();
        x.delete(1);
        x.collect(2);
        checks.due("segments of none", x.segments(), 0);
        checks.due("tail", x.tail(), 10);
    }

    private void live() {
        Keysapart x = withKeys(5);
        checks.due("live", x.live(), 5);
        x.put(0, 1);
        checks.due("live with one dead", x.live(), 5);
        x.delete(1);
        checks.due("live with a mark", x.live(), 4);
        x.collect(3);
        checks.due("live after collect", x.live(), 4);
        x.crash();
        x.start();
        checks.due("live after a start", x.live(), 4);
    }

    private void toFree() {
        Keysapart x = withPuts(1, 7);
        checks.due("toFree with 7", x.toFree(), NONE);
        x.put(1, 1);
        checks.due("toFree with 8", x.toFree(), 8);
        checks.due("segments", x.segments(), 1);
        x.collect(3);
        checks.due("toFree with the tail at 3", x.toFree(), 5);
        x.collect(x.toFree());
        checks.due("tail", x.tail(), 8);
        checks.due("segments then", x.segments(), 1);
        for (int k = 0; k < 7; k++) {
            x.put(1, k);
        }
        checks.due("toFree from 8 to 16", x.toFree(), 8);
        x.crash();
        checks.due("toFree when down", x.toFree(), NONE);
        x.start();
        for (int k = 0; k < 7; k++) {
            x.put(1, k);
        }
        x.synchronize();
        x.crash();
        checks.due("toFree when down and written", x.toFree(), 8);
    }

    private void wouldHave() {
        Keysapart x = withKeys(3);
        checks.due("wouldHave", x.wouldHave(), 0);
        x.synchronize();
        checks.due("wouldHave written", x.wouldHave(), 3);
        x.delete(0);
        checks.due("wouldHave with an unwritten mark", x.wouldHave(), 3);
        x.synchronize();
        checks.due("wouldHave with a mark", x.wouldHave(), 2);
        x.checkpoint();
        x.put(8, 8);
        checks.due("wouldHave from a checkpoint", x.wouldHave(), 2);
        x.crash();
        checks.due("wouldHave when down", x.wouldHave(), 2);
        checks.due("start", x.start(), 2);
    }

    private void wouldHaveChangesNothing() {
        Keysapart x = withKeys(3);
        x.checkpoint();
        x.put(0, 5);
        x.delete(1);
        x.failAfter(0);
        checks.due("wouldHave", x.wouldHave(), 3);
        checks.due("isUp", x.isUp(), true);
        dueLog(x, 0, 3, 5);
        checks.due("get(0)", x.get(0), 5);
        checks.due("get(1)", x.get(1), NONE);
        checks.due("synchronize", x.synchronize(), false);
        checks.due("wouldHave when down", x.wouldHave(), 3);
        checks.due("isUp when down", x.isUp(), false);
        checks.due("start", x.start(), 3);
    }
}
