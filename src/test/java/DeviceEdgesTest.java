/** PART 1 of the document and promises 14, 15, 16 and 20: each sentence that names a bound has a test of its own. */
public final class DeviceEdgesTest extends Check {
    /** What the four blocks of the reader's file have in their word 0. */
    private static final int[] VALUE = {1005, 1006, 1007, 1008};

    public static void main(String[] args) {
        blocksOfDevices();
        wordsOutside();
        sixtyFourArePending();
        pendingGoRound();
        latestPendingIsRead();
        bitsOfTheMask();
        stableInTheirOrder();
        actThatIsNotDone();
        flushIsOfOneDevice();
        maskIsForBothDevices();
        limitBounds();
        limitOfOneThousand();
        limitInPlaceOfAny();
        limitGoesWithThePower();
        callsThatComeToTheLimit();
        callsWithoutActs();
        crashBounds();
        loseWithPendingWrites();
        loseInEachState();
        end("the devices' edges hold");
    }

    /** One set of two slots that are free; each read of another block of file 1 writes the next slot. */
    private static Twin reader() {
        Twin v = new Twin(1, 2, 1);
        v.make(0, 3, false);
        for (int k = 0; k < 4; k++) {
            v.write(1, 16 * k, VALUE[k]);
        }
        v.home();
        landAll(v);
        v.crash(0);
        v.mount(true, 0, 0);
        due("count(13)", v.count(13), 0);
        return v;
    }

    private static Twin readerBehind(int reads) {
        Twin v = reader();
        for (int n = 0; n < reads; n++) {
            due("read", v.read(1, 16 * (n % 4)), VALUE[n % 4]);
        }
        return v;
    }

    /** Both slots' first words, as they are stable. */
    private static void stableSlots(Twin v, int first, int second) {
        due("slot 0, stable", v.word(FLASH, 50, 0, true), first);
        due("slot 1, stable", v.word(FLASH, 51, 0, true), second);
    }

    private static void blocksOfDevices() {
        part = "20, PART 1: the disc has 125 blocks, the flash 50 + SETS * WAYS";
        for (int sets = 1; sets <= 8; sets++) {
            for (int ways = 2; ways <= 8; ways++) {
                Twin v = new Twin(sets, ways, 1);
                int blocks = 50 + sets * ways;
                for (boolean stable : new boolean[] {false, true}) {
                    due("the last of the flash", v.word(FLASH, blocks - 1, 15, stable), 0);
                    due("behind the flash", v.word(FLASH, blocks, 0, stable), NO_WORD);
                    due("the last of the disc", v.word(DISC, 124, 15, stable), 0);
                    due("behind the disc", v.word(DISC, 125, 0, stable), NO_WORD);
                }
            }
        }
    }

    private static void wordsOutside() {
        part = "20: MIN_VALUE if there is none such";
        Twin up = big();
        Twin down = big();
        down.crash(0);
        for (Twin v : new Twin[] {up, down}) {
            for (boolean stable : new boolean[] {false, true}) {
                for (int device = 0; device < 2; device++) {
                    due("word 0 of block 0", v.word(device, 0, 0, stable), 1);
                    due("word 15 of block 0", v.word(device, 0, 15, stable), 0);
                    for (int w : new int[] {MIN, -1, 16, MAX}) {
                        due("word " + w, v.word(device, 0, w, stable), NO_WORD);
                    }
                    for (int b : new int[] {MIN, -1, 125, MAX, 1 << 28, 1 << 30}) {
                        due("block " + b, v.word(device, b, 0, stable), NO_WORD);
                    }
                }
                for (int device : new int[] {MIN, -1, 2, MAX}) {
                    due("device " + device, v.word(device, 0, 0, stable), NO_WORD);
                }
            }
        }
    }

    private static void sixtyFourArePending() {
        part = "PART 1: when 64 are pending, the first one is stable ahead of the next";
        Twin v = reader();
        int first = v.word(FLASH, 50, 0, true);
        int second = v.word(FLASH, 51, 0, true);
        for (int n = 0; n < 64; n++) {
            v.read(1, 16 * (n % 4));
            due("count(13)", v.count(13), n + 1);
        }
        stableSlots(v, first, second);
        v.read(1, 0);
        due("count(13)", v.count(13), 64);
        stableSlots(v, VALUE[0], second);
        v.read(1, 16);
        due("count(13)", v.count(13), 64);
        stableSlots(v, VALUE[0], VALUE[1]);
        v.read(1, 32);
        stableSlots(v, VALUE[2], VALUE[1]);
    }

    private static void pendingGoRound() {
        part = "PART 1: pending writes stay in their order, however many there were";
        // of 200 the last 64, 136 to 199, are pending; 134 and 135 were the last to become stable
        Twin v = readerBehind(200);
        due("count(13)", v.count(13), 64);
        stableSlots(v, VALUE[2], VALUE[3]);
        Twin none = v.copy();
        none.crash(0);
        stableSlots(none, VALUE[2], VALUE[3]);
        Twin lowest = v.copy();
        lowest.crash(1);
        stableSlots(lowest, VALUE[0], VALUE[3]);
        Twin second = v.copy();
        second.crash(2);
        stableSlots(second, VALUE[2], VALUE[1]);
        v.crash(-1);
        stableSlots(v, VALUE[2], VALUE[3]);
        due("count(13)", v.count(13), 0);
    }

    private static void latestPendingIsRead() {
        part = "PART 1: what is read is the latest pending write, else what is stable";
        Twin v = reader();
        int first = v.word(FLASH, 50, 0, true);
        due("no write is pending", v.word(FLASH, 50, 0, false), first);
        v.read(1, 0);
        due("one", v.word(FLASH, 50, 0, false), VALUE[0]);
        v.read(1, 16);
        v.read(1, 32);
        due("two", v.word(FLASH, 50, 0, false), VALUE[2]);
        due("the other slot's", v.word(FLASH, 51, 0, false), VALUE[1]);
        due("stable", v.word(FLASH, 50, 0, true), first);
        v.crash(1);
        due("behind the power's going", v.word(FLASH, 50, 0, false), VALUE[0]);
        due("the other slot's, too", v.word(FLASH, 51, 0, false), v.word(FLASH, 51, 0, true));
    }

    private static void bitsOfTheMask() {
        part = "15, PART 1: those stay whose number, from 0, is that of a bit that is 1";
        Twin full = readerBehind(64);
        int first = full.word(FLASH, 50, 0, true);
        int second = full.word(FLASH, 51, 0, true);
        Twin v = full.copy();
        v.crash(0);
        stableSlots(v, first, second);
        for (int bit = 0; bit < 64; bit++) {
            v = full.copy();
            v.crash(1L << bit);
            stableSlots(v, bit % 2 == 0 ? VALUE[bit % 4] : first, bit % 2 == 0 ? second : VALUE[bit % 4]);
            due("count(13)", v.count(13), 0);
        }
        v = readerBehind(1);
        v.crash(~1L);
        stableSlots(v, first, second);
    }

    private static void stableInTheirOrder() {
        part = "15, PART 1: those that stay are stable in their order";
        Twin v = readerBehind(4);
        int second = v.word(FLASH, 51, 0, true);
        v.crash(5);
        stableSlots(v, VALUE[2], second);
        v = readerBehind(5);
        v.crash(0x15);
        stableSlots(v, VALUE[0], second);
        v = readerBehind(5);
        v.crash(0x1f);
        stableSlots(v, VALUE[0], VALUE[3]);
    }

    private static void actThatIsNotDone() {
        part = "14, PART 1: the n-th act is not done, so the first of 64 is not stable by it";
        Twin full = readerBehind(64);
        int first = full.word(FLASH, 50, 0, true);
        int second = full.word(FLASH, 51, 0, true);
        int writes = full.count(15);
        long[] masks = {0, 1, 1L << 62, 1L << 63};
        int[][] want = {{first, second}, {VALUE[0], second}, {VALUE[2], second}, {first, VALUE[3]}};
        for (int k = 0; k < masks.length; k++) {
            Twin v = full.copy();
            due("limit", v.limit(1, masks[k]), true);
            due("read", v.read(1, 0), ILLEGAL_STATE);
            stableSlots(v, want[k][0], want[k][1]);
            due("count(15)", v.count(15), writes);
        }
        Twin v = full.copy();
        v.write(1, 49, 7);
        v.limit(2, 0);
        due("sync", v.sync(), DOWN);
        // its first act was the 65th write, the second one was not done
        due("count(15)", v.count(15), writes + 1);
        due("slot 0, stable", v.word(FLASH, 50, 0, true), VALUE[0]);
    }

    /** Blocks 43 and 44 of file 1 are on the disc; a commit of block 43 is in two epochs, 44 is pending in a slot. */
    private static Twin bothDevices() {
        Twin v = big();
        v.make(0, 3, false);
        v.write(1, 0, 5);
        v.write(1, 16, 6);
        v.home();
        landAll(v);
        v.crash(0);
        v.mount(false, 0, 0);
        v.attach();
        v.write(1, 0, 9);
        v.sync();
        due("count(13)", v.count(13), 0);
        due("read(1, 16)", v.read(1, 16), 6);
        slotIs(v, 32, 1, 44, 0, 0);
        due("count(13)", v.count(13), 1);
        return v;
    }

    private static void flushIsOfOneDevice() {
        part = "PART 1: a flush makes all that are pending there stable";
        Twin v = bothDevices();
        due("count(4)", v.count(4), 2);
        int flushes = v.count(17);
        due("land()", v.land(), v.count(2));
        due("count(17), the disc was flushed", v.count(17), flushes);
        due("count(13), the flash was not", v.count(13), 1);
        due("stable", v.word(FLASH, 82, 0, true), 0);
        due("as it is read", v.word(FLASH, 82, 0, false), 6);
        v.write(1, 0, 10);
        v.sync();
        due("count(13)", v.count(13), 0);
        due("stable", v.word(FLASH, 82, 0, true), 6);
    }

    private static void maskIsForBothDevices() {
        part = "PART 1: of each device's pending writes those stay that the mask tells";
        Twin v = bothDevices();
        int oldList = v.word(DISC, 2, 0, true);
        for (int mask = 0; mask < 8; mask++) {
            Twin w = v.copy();
            int third = w.word(DISC, 3, 0, true);
            int fourth = w.word(DISC, 4, 0, true);
            // two copies and the list are pending on the disc, a slot on the flash
            w.limit(4, mask);
            due("land()", w.land(), DOWN);
            due("the flash's first", w.word(FLASH, 82, 0, true), (mask & 1) != 0 ? 6 : 0);
            due("the disc's first", w.word(DISC, 3, 0, true), (mask & 1) != 0 ? 1 : third);
            due("the disc's second", w.word(DISC, 4, 0, true), (mask & 2) != 0 ? 9 : fourth);
            due("the disc's third", w.word(DISC, 2, 0, true), (mask & 4) != 0 ? 1 : oldList);
            counts(w, 12, 0, 0);
        }
        due("the disc had others there", v.word(DISC, 3, 0, true) != 1 && v.word(DISC, 4, 0, true) != 9 && oldList != 1, true);
    }

    private static void limitBounds() {
        part = "14: a limit of 1 to 1000";
        for (int n : new int[] {MIN, -1000, -1, 0, 1001, 1002, MAX}) {
            Twin v = big();
            due("limit(" + n + ", -1)", v.limit(n, -1), false);
            v.make(0, 3, false);
            due("sync(), there is no limit", v.sync(), 2);
        }
        for (int n : new int[] {1, 2, 10, 11}) {
            Twin v = big();
            v.make(0, 3, false);
            due("limit(" + n + ", 0)", v.limit(n, 0), true);
            due("sync()", v.sync(), DOWN);
            due("acts", acts(v), n - 1);
        }
        for (int n : new int[] {12, 999, 1000}) {
            Twin v = big();
            v.make(0, 3, false);
            due("limit(" + n + ", 0)", v.limit(n, 0), true);
            due("sync() of 11 acts", v.sync(), 2);
            due("acts", acts(v), 11);
        }
    }

    private static void limitOfOneThousand() {
        part = "14: the 1000th act is not done, those ahead of it are";
        Twin v = big();
        v.make(0, 3, false);
        due("limit(1000, 0)", v.limit(1000, 0), true);
        int answer = 0;
        for (int n = 0; n < 200 && answer != DOWN; n++) {
            v.write(1, 0, n);
            answer = v.sync();
        }
        due("sync()", answer, DOWN);
        due("acts", acts(v), 999);
    }

    private static void limitInPlaceOfAny() {
        part = "14: a limit is in place of any";
        Twin v = big();
        v.make(0, 3, false);
        v.limit(1, 0);
        v.limit(12, 0);
        due("sync(), the later one is greater", v.sync(), 2);
        v.limit(1000, 0);
        v.limit(1, 0);
        due("land(), the later one is smaller", v.land(), DOWN);
        for (long mask : new long[] {0, -1}) {
            v = readerBehind(1);
            int first = v.word(FLASH, 50, 0, true);
            v.limit(1, ~mask);
            v.limit(1, mask);
            due("read", v.read(1, 16), ILLEGAL_STATE);
            due("the later mask", v.word(FLASH, 50, 0, true), mask == 0 ? first : VALUE[0]);
        }
        v = big();
        v.make(0, 3, false);
        v.limit(3, 0);
        v.limit(0, 0);
        v.limit(1001, 0);
        due("sync(), those that are refused change nothing", v.sync(), DOWN);
        due("acts", acts(v), 2);
    }

    private static void limitGoesWithThePower() {
        part = "14, PART 1: whenever the power goes any limit is gone";
        Twin v = big();
        v.make(0, 3, false);
        v.sync();
        v.limit(1, 0);
        v.crash(0);
        due("mount behind crash", v.mount(true, 0, 0), 4);
        v.limit(1, 0);
        v.lose(0);
        due("mount behind lose", v.mount(false, 0, 0), 0);
        v.make(0, 3, false);
        v.limit(1, 0);
        due("sync()", v.sync(), DOWN);
        due("mount behind the limit", v.mount(false, 0, 0), 0);
        v.make(0, 3, false);
        due("sync()", v.sync(), 0);
        v.crash(0);
        due("mount", v.mount(false, 3, 0), DOWN);
        due("mount behind a mount's limit", v.mount(false, -1, 0), 0);
    }

    /** Eight blocks are changed, so the next call that may change something commits them. */
    private static Twin eightChanged() {
        Twin v = big();
        v.make(0, 5, false);
        v.write(1, 64, 9);
        for (int k = 0; k < 3; k++) {
            v.write(1, 16 * k, 9);
        }
        due("count(7)", v.count(7), 8);
        return v;
    }

    private static void callsThatComeToTheLimit() {
        part = "14, PART 1: the call that did the act answers DOWN";
        for (int call = 0; call < 9; call++) {
            Twin v = eightChanged();
            v.limit(call < 8 ? 1 : 9, 0);
            int answer = call == 0 ? v.make(0, 6, true) : call == 1 ? v.write(1, 0, 1) : call == 2 ? v.cut(1, 1)
                : call == 3 ? v.remove(0, 5) : call == 4 ? v.move(0, 5, 0, 6) : call == 5 ? v.sync()
                : call == 6 ? v.home() : call == 7 ? v.make(-1, -1, true) : v.write(-1, -1, 1);
            due("call " + call, answer, DOWN);
            due("count(0)", v.count(0), 0);
            due("acts", acts(v), call < 8 ? 0 : 8);
        }
        Twin v = onDisc();
        v.limit(1, 0);
        due("attach()", v.attach(), DOWN);
        due("mount", v.mount(false, 1, 0), DOWN);
        due("mount", v.mount(false, 0, 0), 4);
        v.attach();
        v.limit(1, 0);
        due("write that reads its block", v.write(1, 0, 1), DOWN);
        v.mount(true, 0, 0);
        v.limit(1, 0);
        due("cut that reads its block: n is 0, so it reads none", v.cut(1, 0), 0);
        due("sync()", v.sync(), DOWN);
    }

    private static void callsWithoutActs() {
        part = "14: what does no act doesn't come to a limit";
        Twin v = onDisc();
        v.attach();
        v.limit(1, 0);
        int acts = acts(v);
        due("make", v.make(0, 4, true), 2);
        due("move", v.move(0, 4, 2, 4), WRONG);
        due("move", v.move(0, 4, 0, 6), 0);
        due("remove", v.remove(0, 6), 0);
        due("cut", v.cut(1, 1), 0);
        due("write, a new block", v.write(1, 16, 1), 17);
        due("read, changed", v.read(1, 16), 1);
        due("read, no block", v.read(1, 32), 0);
        due("land", v.land(), 0);
        due("limit", v.limit(0, 0), false);
        due("attach", v.attach(), WRONG);
        due("mount", v.mount(true, 0, 0), NONE);
        due("acts", acts(v), acts);
        due("count(0)", v.count(0), 1);
        due("read", v.read(1, 0), ILLEGAL_STATE);
        due("acts", acts(v), acts);
    }

    private static void crashBounds() {
        part = "15: true, false while it is down";
        for (long mask : new long[] {Long.MIN_VALUE, -1, 0, 1, Long.MAX_VALUE}) {
            Twin v = big();
            due("crash", v.crash(mask), true);
            due("count(0)", v.count(0), 0);
            due("crash", v.crash(mask), false);
            v.mount(true, 0, 0);
            due("crash", v.crash(mask), true);
            v.mount(false, 0, 0);
            due("crash", v.crash(mask), true);
            due("crash", v.crash(mask), false);
        }
        Twin v = big();
        v.make(0, 3, false);
        v.crash(-1);
        v.mount(true, 0, 0);
        due("what is in memory alone is gone", v.find(0, 3), NONE);
    }

    private static void loseWithPendingWrites() {
        part = "16: a new flash is there, 0 in all its words, pending writes too";
        Twin v = readerBehind(3);
        due("count(13)", v.count(13), 3);
        int[] had = {v.count(14), v.count(15), v.count(16), v.count(17)};
        due("lose(-1)", v.lose(-1), true);
        counts(v, 12, 0, 0, had[0], had[1], had[2], had[3]);
        for (int b = 0; b < 52; b++) {
            block(v, FLASH, b);
            due("as it is read", v.word(FLASH, b, 0, false), 0);
        }
        v = bothDevices();
        Twin w = v.copy();
        w.limit(3, -1);
        due("land()", w.land(), DOWN);
        int identity = w.word(DISC, 0, 0, true);
        due("lose, while it is down", w.lose(0), true);
        due("the disc is as it was", w.word(DISC, 3, 0, true), 1);
        due("its identity, too", w.word(DISC, 0, 0, true), identity);
        block(w, FLASH, 82);
    }

    private static void loseInEachState() {
        part = "16: true, in each state";
        Twin v = onDisc();
        due("lose, without the flash", v.lose(MIN), true);
        due("count(0)", v.count(0), 0);
        due("lose, while it is down", v.lose(-1), true);
        due("lose, again", v.lose(0), true);
        due("mount(true)", v.mount(true, 0, 0), NONE);
        due("mount(false)", v.mount(false, 0, 0), 4);
        v.attach();
        due("lose, with the flash", v.lose(Long.MAX_VALUE), true);
        due("count(0)", v.count(0), 0);
        due("mount(true)", v.mount(true, 0, 0), NONE);
        due("mount(false)", v.mount(false, 0, 0), 4);
        due("read(1, 0)", v.read(1, 0), 5);
    }
}
