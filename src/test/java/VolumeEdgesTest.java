import java.util.ArrayList;
import java.util.List;

/** PART 2 of the document and promises 1, 12, 18 and 19: each sentence that names a bound has a test of its own. */
public final class VolumeEdgesTest extends Check {
    public static void main(String[] args) {
        nearestSets();
        nearestWays();
        nearestEpochs();
        atFirst();
        slotsOfSets();
        handGoesRound();
        marksAreLostOnce();
        dirtyOnesArePassedBy();
        noneIsFound();
        cleanSlotIsTaken();
        newestSlotIsRead();
        slotsOfALandedEpoch();
        epochsThatWait();
        pairsOfARecord();
        sixteenSlots();
        blocksThatLand();
        landBounds();
        oldestLandsTillThereIsOne();
        openOneIsClosedWhenTheSetIsFull();
        openOneStaysOpen();
        listByRisingBlocks();
        placesOfAHalf();
        recordsThatDoNotFit();
        halvesChangeBackAndForth();
        noEpochToTakeAlong();
        withoutTheFlash();
        attachBounds();
        attachBeginsAnew();
        slotBounds();
        end("the volume's edges hold");
    }

    private static void settleAfresh(Twin v) {
        v.home();
        landAll(v);
        v.crash(0);
        v.mount(true, 0, 0);
        due("count(0)", v.count(0), 1);
        due("count(4)", v.count(4), 0);
    }

    /** File 1, name 3, with so many blocks, all on the disc; no slot has anything. */
    private static Twin fileOf(int blocks, Twin v) {
        v.make(0, 3, false);
        for (int k = 0; k < blocks; k++) {
            v.write(1, 16 * k, 1000 + k);
        }
        settleAfresh(v);
        return v;
    }

    private static void nearestSets() {
        part = "1: SETS 1 to 8, a number outside: the nearest one";
        int[][] rows = {{MIN, 1}, {-1, 1}, {0, 1}, {1, 1}, {2, 2}, {7, 7}, {8, 8}, {9, 8}, {MAX, 8}};
        for (int[] row : rows) {
            Twin v = new Twin(row[0], 3, 1);
            int slots = row[1] * 3;
            due("the last slot", v.slot(slots - 1, 0), 0);
            due("behind it", v.slot(slots, 0), NONE);
            due("the flash's last block", v.word(FLASH, 49 + slots, 0, true), 0);
            due("behind it", v.word(FLASH, 50 + slots, 0, true), NO_WORD);
            for (int i = 0; i < slots; i++) {
                due("hand", v.slot(i, 4), i % 3 == 0 ? 1 : 0);
            }
        }
    }

    private static void nearestWays() {
        part = "1: WAYS 2 to 8, a number outside: the nearest one";
        int[][] rows = {{MIN, 2}, {-1, 2}, {0, 2}, {1, 2}, {2, 2}, {3, 3}, {7, 7}, {8, 8}, {9, 8}, {MAX, 8}};
        for (int[] row : rows) {
            Twin v = new Twin(2, row[0], 1);
            int slots = 2 * row[1];
            due("the last slot", v.slot(slots - 1, 0), 0);
            due("behind it", v.slot(slots, 0), NONE);
            due("the flash's last block", v.word(FLASH, 49 + slots, 0, true), 0);
            due("behind it", v.word(FLASH, 50 + slots, 0, true), NO_WORD);
            for (int i = 0; i < slots; i++) {
                due("hand", v.slot(i, 4), i == 0 || i == row[1] ? 1 : 0);
            }
        }
    }

    private static void nearestEpochs() {
        part = "1: EPOCHS 1 to 8, a number outside: the nearest one";
        int[][] rows = {{MIN, 1}, {-1, 1}, {0, 1}, {1, 1}, {2, 2}, {7, 7}, {8, 8}, {9, 8}, {MAX, 8}};
        for (int[] row : rows) {
            Twin v = new Twin(8, 8, row[0]);
            for (int n = 1; n <= 5; n++) {
                v.make(0, n, false);
                due("sync()", v.sync(), 2 * n);
            }
            due("closed", v.count(4), row[1]);
            due("landed", v.count(2), 10 - row[1]);
        }
    }

    private static void atFirst() {
        part = "1, PART 4: at first";
        for (int[] row : new int[][] {{1, 2, 1}, {8, 8, 8}, {3, 5, 2}}) {
            Twin v = new Twin(row[0], row[1], row[2]);
            counts(v, 0, 1, 1, 0, 1, 0, 0, 1, 0, 0, 28, 1, 0, 0, 0, 0, 0, 0, 0);
            for (int b = 0; b < 125; b++) {
                block(v, DISC, b, b == 0 || b == 19 || b == 49 ? new int[] {1} : new int[0]);
            }
            for (int b = 0; b < 50 + row[0] * row[1]; b++) {
                block(v, FLASH, b, b == 0 ? new int[] {1, 1} : new int[0]);
            }
            for (int i = 0; i < row[0] * row[1]; i++) {
                slotIs(v, i, 0, NONE, 0, 0, i % row[1] == 0 ? 1 : 0);
            }
            due("inode(0, 0)", v.inode(0, 0), 1);
            due("inode(0, 1)", v.inode(0, 1), 0);
            due("find(0, 1)", v.find(0, 1), NONE);
            due("next place", v.make(0, 1, false), 1);
            v.sync();
            due("word(1, 1, 1)", v.word(FLASH, 1, 1, true), 1);
        }
    }

    private static void slotsOfSets() {
        part = "19, PART 2: slot i is of set i / WAYS, block b goes to slots of set b % SETS";
        for (int sets = 1; sets <= 8; sets++) {
            for (int ways = 2; ways <= 8; ways++) {
                Twin v = fileOf(3, new Twin(sets, ways, 8));
                v.read(1, 0);
                v.read(1, 16);
                v.read(1, 32);
                for (int i = 0; i < sets * ways; i++) {
                    if (v.slot(i, 0) != 0) {
                        due("set of slot " + i, i / ways, v.slot(i, 1) % sets);
                        due("its words", v.word(FLASH, 50 + i, 0, false), 1000 + v.slot(i, 1) - 43);
                    }
                }
                due("43 in the first slot of its set", v.slot(43 % sets * ways, 1), sets == 1 && ways == 2 ? 45 : 43);
            }
        }
    }

    private static void handGoesRound() {
        part = "19, PART 2: the hand is behind the found one, round the set";
        for (int ways = 2; ways <= 8; ways++) {
            Twin v = fileOf(12, new Twin(1, ways, 1));
            for (int n = 0; n < 12; n++) {
                due("hand", v.slot(n % ways, 4), 1);
                v.read(1, 16 * n);
                slotIs(v, n % ways, 1, n < 4 ? 43 + n : 44 + n, 0, 0, 0);
                due("hand", v.slot((n + 1) % ways, 4), 1);
            }
        }
        // each set has a hand of its own
        Twin v = fileOf(3, new Twin(2, 2, 1));
        v.read(1, 0);
        due("hand of set 0", v.slot(0, 4), 1);
        due("hand of set 1", v.slot(3, 4), 1);
        v.read(1, 32);
        due("hand of set 1, round", v.slot(2, 4), 1);
        due("hand of set 0", v.slot(0, 4), 1);
        v.read(1, 16);
        due("hand of set 0", v.slot(1, 4), 1);
    }

    private static void marksAreLostOnce() {
        part = "19, PART 2: a clean one with a mark loses it, one without is found, at most twice round";
        for (int ways = 2; ways <= 4; ways++) {
            for (int marks = 0; marks < 1 << ways; marks++) {
                Twin v = fileOf(ways + 1 > 4 ? 4 : ways + 1, new Twin(1, ways, 1));
                if (ways == 4) {
                    // a fifth block without an indirect one: of another file
                    v.make(0, 4, false);
                    v.write(2, 0, 9);
                    settleAfresh(v);
                }
                for (int k = 0; k < ways; k++) {
                    v.read(1, 16 * k);
                }
                int found = -1;
                for (int k = ways - 1; k >= 0; k--) {
                    if ((marks >> k & 1) == 1) {
                        v.read(1, 16 * k);
                    } else {
                        found = k;
                    }
                }
                if (ways == 4) {
                    v.read(2, 0);
                } else {
                    v.read(1, 16 * ways);
                }
                int slot = Math.max(0, found);
                for (int k = 0; k < ways; k++) {
                    boolean passed = found < 0 || k < found;
                    int mark = (marks >> k & 1) == 1 && !passed ? 1 : 0;
                    slotIs(v, k, 1, k == slot ? 43 + ways : 43 + k, 0, k == slot ? 0 : mark, k == (slot + 1) % ways ? 1 : 0);
                }
            }
        }
    }

    private static void dirtyOnesArePassedBy() {
        part = "19, PART 2: dirty ones are passed by";
        Twin v = fileOf(3, new Twin(1, 3, 2));
        v.write(1, 0, 9);
        v.sync();
        // 43 was in slot 0 when it was READ; journal: 1 and 2 in slots 1 and 2, (2, ..) in slot 0
        int landed = v.count(2);
        slotIs(v, 0, 2, 3, landed + 2, 1, 0);
        slotIs(v, 1, 2, 1, landed + 1, 1, 1);
        slotIs(v, 2, 2, 2, landed + 1, 1, 0);
        due("land()", v.land(), landed + 1);
        due("read(1, 16)", v.read(1, 16), 1001);
        slotIs(v, 0, 2, 3, landed + 2, 1, 0);
        slotIs(v, 1, 1, 44, 0, 0, 0);
        slotIs(v, 2, 1, 2, 0, 0, 1);
        due("read(1, 32)", v.read(1, 32), 1002);
        slotIs(v, 2, 1, 45, 0, 0, 0);
        due("hand", v.slot(0, 4), 1);
        due("read(1, 16)", v.read(1, 16), 1001);
        slotIs(v, 1, 1, 44, 0, 1, 0);
    }

    private static void noneIsFound() {
        part = "5, PART 2: none is found just when all are dirty; the hand stays then";
        Twin v = fileOf(3, new Twin(1, 3, 2));
        v.write(1, 0, 9);
        v.sync();
        Twin w = v.copy();
        int writes = v.count(15);
        due("read(1, 16)", v.read(1, 16), 1001);
        due("count(15)", v.count(15), writes);
        sameState("a read that finds no slot", v, w);
    }

    private static void cleanSlotIsTaken() {
        part = "PART 2: the clean slot with the block is taken, if there is one";
        Twin v = fileOf(3, new Twin(1, 8, 8));
        v.read(1, 0);
        v.read(1, 16);
        v.read(1, 32);
        v.write(1, 16, 9);
        v.sync();
        due("hand", v.slot(6, 4), 1);
        v.home();
        // 44 in its clean slot 1; block 0 in slot 6
        slotIs(v, 1, 2, 44, v.count(3) - 2, 1, 0);
        slotIs(v, 6, 2, 0, v.count(3) - 1, 1, 0);
        due("hand", v.slot(7, 4), 1);
        slotIs(v, 0, 1, 43, 0, 0);
        // the first slot of all is taken, too, though the hand is elsewhere
        v = fileOf(3, new Twin(1, 8, 8));
        v.read(1, 0);
        v.write(1, 0, 9);
        v.sync();
        due("hand", v.slot(4, 4), 1);
        v.home();
        slotIs(v, 0, 2, 43, v.count(3) - 2, 1, 0);
        slotIs(v, 4, 2, 0, v.count(3) - 1, 1, 0);
        due("hand", v.slot(5, 4), 1);
    }

    /** The newest slot with a block, as slot() tells; -1 if there is none. */
    private static int newest(Twin v, int slots, int b) {
        int found = -1;
        for (int i = 0; i < slots; i++) {
            boolean newer = found < 0 || v.slot(i, 2) > v.slot(found, 2);
            found = v.slot(i, 0) != 0 && v.slot(i, 1) == b && newer ? i : found;
        }
        return found;
    }

    /** The slot that is found in a set, as slot() tells its slots, marks and hand; -1 if all are dirty. */
    private static int toFind(Twin v, int set, int ways) {
        int[] mark = new int[ways];
        int hand = 0;
        for (int k = 0; k < ways; k++) {
            mark[k] = v.slot(set * ways + k, 3);
            hand = v.slot(set * ways + k, 4) == 1 ? k : hand;
        }
        for (int n = 0; n < 2 * ways; n++) {
            int k = (hand + n) % ways;
            int kind = v.slot(set * ways + k, 0);
            if (kind == 0 || kind == 1 && mark[k] == 0) {
                return set * ways + k;
            }
            mark[k] = kind == 1 ? 0 : mark[k];
        }
        return -1;
    }

    /** Runs in which blocks come to all slots, the first one of all too, and to two at once. */
    private static void newestSlotIsRead() {
        part = "5, 19, PART 2: the newest slot is read, and gets a mark; else a slot is found and written";
        int[] seen = new int[4];
        for (int sets = 1; sets <= 2; sets++) {
            for (int ways = 2; ways <= 8; ways++) {
                Twin v = fileOf(4, new Twin(sets, ways, 8));
                for (int n = 0; n < 80; n++) {
                    step(v, n * n + n / 3 + ways);
                    int k = (n * 7 + ways) % 4;
                    if (v.count(8) == 0) {
                        seen[readAndLook(v, sets, ways, k)]++;
                    }
                }
            }
        }
        for (int k = 0; k < seen.length; k++) {
            due("such a read was there, " + k, seen[k] > 5, true);
        }
    }

    private static void step(Twin v, int n) {
        switch (n % 6) {
            case 0: v.write(1, 16 * (n / 6 % 4), n); v.home(); break;
            case 1: v.land(); break;
            case 2: v.write(1, 16 * (n / 6 % 4), n); v.write(1, 16 * (n / 7 % 4), n); v.home(); break;
            case 3: v.land(); v.land(); v.land(); break;
            default: v.read(1, 16 * (n / 6 % 4));
        }
    }

    /** 0: from a dirty slot, 1: from a clean one, 2: a slot was found, 3: none was. */
    private static int readAndLook(Twin v, int sets, int ways, int k) {
        int b = 43 + k;
        int there = newest(v, sets * ways, b);
        int found = toFind(v, b % sets, ways);
        int writes = v.count(15);
        long answer = v.read(1, 16 * k);
        if (there >= 0) {
            due("writes", v.count(15), writes);
            due("mark", v.slot(there, 3), 1);
            due("its words", answer, v.word(FLASH, 50 + there, 0, false));
            return v.slot(there, 0) == 2 ? 0 : 1;
        }
        due("the disc's words", answer, v.word(DISC, 19 + b, 0, false));
        due("writes", v.count(15), found < 0 ? writes : writes + 1);
        if (found >= 0) {
            slotIs(v, found, 1, b, 0, 0);
            due("its words", v.word(FLASH, 50 + found, 0, false), answer);
            due("hand", v.slot(found / ways * ways + (found % ways + 1) % ways, 4), 1);
        }
        return found < 0 ? 3 : 2;
    }

    private static void slotsOfALandedEpoch() {
        part = "12, 19, PART 2: its slots are clean; each whose block has another dirty slot is free, without mark";
        int freed = 0;
        int first = 0;
        for (int ways = 2; ways <= 8; ways++) {
            Twin v = fileOf(4, new Twin(1, ways, 8));
            for (int n = 0; n < 60; n++) {
                step(v, n * n + 2 * n / 3 + ways);
                int epoch = v.count(2) + 1;
                int[][] had = new int[ways][4];
                for (int i = 0; i < ways; i++) {
                    for (int what = 0; what < 4; what++) {
                        had[i][what] = v.slot(i, what);
                    }
                }
                if (v.land() == 0) {
                    continue;
                }
                for (int i = 0; i < ways; i++) {
                    boolean other = false;
                    for (int k = 0; k < ways; k++) {
                        other |= k != i && had[k][0] == 2 && had[k][1] == had[i][1];
                        first += k == 0 && had[i][2] == epoch && had[k][1] == had[i][1] && had[k][2] > epoch ? 1 : 0;
                    }
                    if (had[i][2] != epoch) {
                        slotIs(v, i, had[i]);
                    } else if (other) {
                        freed++;
                        slotIs(v, i, 0, NONE, 0, 0);
                    } else {
                        slotIs(v, i, 1, had[i][1], 0, had[i][3]);
                    }
                }
            }
        }
        due("a slot was freed", freed > 5, true);
        due("for the first of all slots", first > 0, true);
    }

    private static void epochsThatWait() {
        part = "12, PART 2: as long as EPOCHS closed ones have not landed, the oldest one lands";
        for (int epochs = 1; epochs <= 8; epochs++) {
            Twin v = new Twin(8, 8, epochs);
            for (int n = 1; n <= 6; n++) {
                v.make(0, n, false);
                int acts = v.count(14);
                due("sync()", v.sync(), 2 * n);
                due("closed", v.count(4), Math.min(epochs, 2 * n));
                due("landed", v.count(2), Math.max(0, 2 * n - epochs));
                due("writes to the disc", v.count(14) > acts, 2 * n > epochs);
                due("open", v.count(3), 2 * n + 1);
            }
        }
    }

    /** The pairs of each record of an epoch, in the half with a generation; last is that of the LAST one. */
    private static String recordsOf(Twin v, int half, int epoch) {
        List<String> all = new ArrayList<>();
        int generation = v.word(FLASH, 25 * half, 0, true);
        for (int b = 25 * half + 1; b < 25 * half + 25; b++) {
            if (v.word(FLASH, b, 0, true) == generation && v.word(FLASH, b, 1, true) == epoch) {
                all.add(v.word(FLASH, b, 3, true) + (v.word(FLASH, b, 2, true) == 1 ? " last" : ""));
                int before = -1;
                for (int j = 0; j < v.word(FLASH, b, 3, true); j++) {
                    due("slots by rising numbers", v.word(FLASH, b, 4 + 2 * j, true) > before, true);
                    before = v.word(FLASH, b, 4 + 2 * j, true);
                }
                for (int w = 4 + 2 * v.word(FLASH, b, 3, true); w < 16; w++) {
                    due("words behind the pairs", v.word(FLASH, b, w, true), 0);
                }
            }
        }
        return all.toString();
    }

    /** So many blocks of file 1 are kept. */
    private static Twin kept(int n) {
        Twin v = fileOf(20, big());
        for (int k = 0; k < n; k++) {
            v.write(1, 16 * k, 2000 + k);
        }
        v.sync();
        due("count(8)", v.count(8), n);
        return v;
    }

    private static void pairsOfARecord() {
        part = "PART 2: up to 6 pairs in a record, by rising slots, the last one a LAST one";
        int[] many = {1, 5, 6, 7, 11, 12, 13, 15, 16};
        String[] want = {"[1 last]", "[5 last]", "[6 last]", "[6, 1 last]", "[6, 5 last]", "[6, 6 last]", "[6, 6, 1 last]",
            "[6, 6, 3 last]", "[6, 6, 4 last]"};
        for (int k = 0; k < many.length; k++) {
            Twin v = kept(many[k]);
            int open = v.count(3);
            due("home()", v.home(), many[k]);
            due("open", v.count(3), open + 2);
            due(many[k] + " slots: " + recordsOf(v, 1, open), recordsOf(v, 1, open).equals(want[k]), true);
            due("block 0: " + recordsOf(v, 1, open + 1), recordsOf(v, 1, open + 1).equals("[1 last]"), true);
        }
    }

    private static void sixteenSlots() {
        part = "PART 2: if 16 slots are dirty of the open epoch, it is closed";
        Twin v = kept(16);
        int open = v.count(3);
        v.home();
        due("16: open", v.count(3), open + 2);
        v = kept(17);
        open = v.count(3);
        int sixteenth = 43 + 16;
        v.home();
        due("17: open", v.count(3), open + 3);
        due("17: " + recordsOf(v, 1, open), recordsOf(v, 1, open).equals("[6, 6, 4 last]"), true);
        due("17: " + recordsOf(v, 1, open + 1), recordsOf(v, 1, open + 1).equals("[1 last]"), true);
        int last = 0;
        for (int i = 0; i < 64; i++) {
            if (v.slot(i, 2) == open + 1) {
                last = v.slot(i, 1);
            }
        }
        due("17: the greatest number is in the next one", last, sixteenth + 1);
    }

    private static void blocksThatLand() {
        part = "12, PART 2: an epoch's blocks by rising numbers, up to 16, land";
        Twin v = kept(16);
        int open = v.count(3);
        v.home();
        while (v.count(2) < open - 1) {
            v.land();
        }
        int[] had = {v.count(14), v.count(16)};
        due("land()", v.land(), open);
        due("writes", v.count(14), had[0] + 16 + 1 + 1 + 16 + 1);
        due("flushes", v.count(16), had[1] + 4);
        block(v, DISC, 1, 0, open, 0);
        // file 1: 43 to 46, the indirect one is 47
        int[] list = new int[16];
        for (int k = 0; k < 16; k++) {
            list[k] = k < 4 ? 43 + k : 44 + k;
            block(v, DISC, 3 + k, 2000 + k);
            block(v, DISC, 19 + list[k], 2000 + k);
        }
        block(v, DISC, 2, list);
        had = new int[] {v.count(14), v.count(16)};
        due("land()", v.land(), open + 1);
        due("writes", v.count(14), had[0] + 1 + 1 + 1 + 1 + 1);
        due("flushes", v.count(16), had[1] + 4);
        block(v, DISC, 2);
        due("block 0", v.word(DISC, 3, 0, true), v.count(6));
        block(v, DISC, 4, 2001);
        block(v, DISC, 18, 2015);
        block(v, DISC, 1, 0, open + 1, 0);
    }

    private static void landBounds() {
        part = "12: 0 if there is none";
        Twin v = big();
        due("land(), nothing is closed", v.land(), 0);
        v.make(0, 3, false);
        v.sync();
        due("land()", v.land(), 1);
        due("land()", v.land(), 2);
        int acts = acts(v);
        due("land(), all have landed", v.land(), 0);
        due("land(), all have landed", v.land(), 0);
        due("acts", acts(v), acts);
        v.make(0, 4, false);
        due("land(), changed alone", v.land(), 0);
        v.crash(0);
        due("land()", v.land(), DOWN);
        v.mount(false, 0, 0);
        due("land(), without the flash", v.land(), 0);
    }

    /** Eight sets of two slots, all dirty, of the epochs 1 to 8. */
    private static Twin allSetsFull() {
        Twin v = new Twin(8, 2, 8);
        v.make(0, 3, false);
        v.sync();
        v.write(1, 0, 1);
        v.sync();
        v.write(1, 0, 2);
        v.sync();
        v.write(1, 0, 3);
        due("sync()", v.sync(), 8);
        counts(v, 2, 0, 9, 8, 0);
        for (int i = 0; i < 16; i++) {
            due("dirty", v.slot(i, 0), 2);
        }
        return v;
    }

    private static void oldestLandsTillThereIsOne() {
        part = "PART 2: the oldest closed epoch lands, and so till there is a slot";
        Twin v = allSetsFull();
        // 29 goes to set 5, whose slots are of epochs 2 and 6
        slotIs(v, 10, 2, 5, 2);
        slotIs(v, 11, 2, 13, 6);
        Twin w = v.copy();
        // epoch 1: 4 blocks, epoch 2: one
        int landing = 4 + 1 + 1 + 1 + 1 + 4 + 1 + 1 + 1 + 5 + 4;
        w.limit(landing + 1, 0);
        due("home(), cut off at its first write to a slot", w.home(), DOWN);
        due("count(2)", w.count(2), 2);
        due("home()", v.home(), 4);
        // 30 goes to set 6, of epochs 3 and 7; all others have a clean slot then
        counts(v, 2, 3, 11, 7, 0);
        slotIs(v, 10, 2, 29, 9, 1);
        slotIs(v, 11, 2, 13, 6, 1);
    }

    private static void openOneIsClosedWhenTheSetIsFull() {
        part = "PART 2: if no slot of the set is dirty of a closed epoch, the open one is closed";
        Twin v = new Twin(1, 2, 8);
        v.make(0, 3, false);
        // 1 and 2 in epoch 1, which lands for 3; 3 and 4 in epoch 2, which lands for 5, which is of epoch 3
        due("sync()", v.sync(), 3);
        counts(v, 2, 2, 4, 1, 0);
        slotIs(v, 0, 2, 5, 3, 1, 0);
        slotIs(v, 1, 1, 4, 0, 0, 1);
        block(v, DISC, 1, 0, 2, 0);
        block(v, DISC, 2, 3, 4);
        // with a closed one in the set the open one is not closed
        v = new Twin(2, 2, 8);
        v.make(0, 3, false);
        v.sync();
        // 1 to 4 in epoch 1, all slots; 5 goes to set 1 behind its landing
        counts(v, 2, 1, 3, 1, 0);
    }

    private static void openOneStaysOpen() {
        part = "PART 2: if a slot of the set is dirty of a closed epoch, the open one is not closed";
        Twin v = new Twin(1, 3, 8);
        v.make(0, 3, false);
        // 1 to 3 in epoch 1, 4 in epoch 2, 5 in epoch 3
        due("sync()", v.sync(), 3);
        counts(v, 2, 1, 4, 2, 0);
        v.write(1, 0, 9);
        // 6 to 8 in epoch 4, for which 2 and 3 land; it is closed for 9, in epoch 5; 10 in epoch 6
        due("sync()", v.sync(), 6);
        counts(v, 2, 4, 7, 2, 0);
        block(v, DISC, 2, 6, 7, 8);
    }

    private static void listByRisingBlocks() {
        part = "12, PART 2: its blocks by rising numbers, not its slots";
        Twin v = fileOf(1, big());
        v.make(0, 4, false);
        // 31 goes to set 7, 42 to set 2
        v.home();
        due("slot of 42", newest(v, 64, 42) < newest(v, 64, 31), true);
        int epoch = v.slot(newest(v, 64, 42), 2);
        due("one epoch", v.slot(newest(v, 64, 31), 2), epoch);
        while (v.count(2) < epoch) {
            v.land();
        }
        block(v, DISC, 2, 31, 42);
        block(v, DISC, 3, 2);
        block(v, DISC, 4, 3, 1, 4, 2);
    }

    /** Two records, one of each of its epochs, each time. */
    private static void twoRecords(Twin v, int times) {
        for (int n = 0; n < times; n++) {
            v.write(1, 0, 3000 + n);
            v.sync();
        }
    }

    private static void placesOfAHalf() {
        part = "PART 2: 24 places, the halves change when there are not as many left";
        Twin v = new Twin(8, 8, 2);
        v.make(0, 3, false);
        v.write(1, 0, 1);
        v.sync();
        twoRecords(v, 7);
        v.home();
        twoRecords(v, 2);
        due("22 are used", v.word(FLASH, 22, 1, true), 22);
        block(v, FLASH, 23);
        twoRecords(v, 1);
        due("24 are used", v.word(FLASH, 24, 1, true), 24);
        block(v, FLASH, 0, 1, 1);
        block(v, FLASH, 25);
        twoRecords(v, 1);
        block(v, FLASH, 25, 2, 1);
        // of the two that had not landed the older one landed when 25 was closed
        for (int k = 0; k < 3; k++) {
            due("generation", v.word(FLASH, 26 + k, 0, true), 2);
            due("epoch", v.word(FLASH, 26 + k, 1, true), 24 + k);
            due("last", v.word(FLASH, 26 + k, 2, true), 1);
        }
        block(v, FLASH, 29);
        due("the other half stays", v.word(FLASH, 24, 1, true), 24);
    }

    /** File 1 with 20 blocks, mounted once: half 1, generation 2, its first place is next. */
    private static Twin emptyHalf() {
        Twin v = fileOf(20, new Twin(8, 8, 1));
        block(v, FLASH, 25, 2, 1);
        return v;
    }

    private static void recordsThatDoNotFit() {
        part = "PART 2: as many places left as records, and one fewer";
        Twin v = usedUp(emptyHalf(), 22);
        changeBlocks(v, 7);
        int open = v.count(3);
        v.sync();
        // two records in the last two places, then (2, ..) in the other half
        due("two records, two places: " + recordsOf(v, 1, open), recordsOf(v, 1, open).equals("[6, 2 last]"), true);
        due("the last place", v.word(FLASH, 49, 1, true), open);
        due("generation", v.word(FLASH, 0, 0, true), 3);
        due("(2, ..): " + recordsOf(v, 0, open + 1), recordsOf(v, 0, open + 1).equals("[1 last]"), true);
        // three records first, so that others by two come to 23
        v = emptyHalf();
        changeBlocks(v, 6);
        v.sync();
        v = usedUp(v, 23);
        changeBlocks(v, 7);
        open = v.count(3);
        v.sync();
        due("two records, one place: " + recordsOf(v, 1, open), recordsOf(v, 1, open).equals("[]"), true);
        due("two records, one place: " + recordsOf(v, 0, open), recordsOf(v, 0, open).equals("[6, 2 last]"), true);
        due("the last place", v.word(FLASH, 49, 1, true) < open, true);
        due("generation", v.word(FLASH, 0, 0, true), 3);
    }

    /** Commits of one block, of two records each, till so many places are used. */
    private static Twin usedUp(Twin v, int places) {
        for (int n = 0; n < 20 && usedPlaces(v, 1) < places; n++) {
            v.write(1, 16, 3000 + n);
            v.sync();
        }
        due("used", usedPlaces(v, 1), places);
        return v;
    }

    private static void changeBlocks(Twin v, int n) {
        for (int k = 1; k <= n; k++) {
            v.write(1, 16 * k, 4000);
        }
        due("count(7)", v.count(7), n);
    }

    private static int usedPlaces(Twin v, int half) {
        int n = 0;
        for (int b = 25 * half + 1; b < 25 * half + 25; b++) {
            n += v.word(FLASH, b, 0, true) == v.word(FLASH, 25 * half, 0, true) ? 1 : 0;
        }
        return n;
    }

    private static void halvesChangeBackAndForth() {
        part = "PART 2: the halves change, the generation rises by 1";
        Twin v = new Twin(8, 8, 1);
        v.make(0, 3, false);
        int generation = 1;
        int changes = 0;
        for (int n = 0; n < 60; n++) {
            v.write(1, 0, n);
            v.sync();
            int now = Math.max(v.word(FLASH, 0, 0, true), v.word(FLASH, 25, 0, true));
            due("generation", now == generation || now == generation + 1, true);
            if (now != generation) {
                changes++;
                due("the half", v.word(FLASH, now % 2 == 1 ? 0 : 25, 0, true), now);
                due("its identity", v.word(FLASH, now % 2 == 1 ? 0 : 25, 1, true), 1);
                due("the other one", v.word(FLASH, now % 2 == 1 ? 25 : 0, 0, true), now - 1);
            }
            generation = now;
        }
        due("changes", changes >= 4, true);
        v.crash(0);
        due("mount", v.mount(true, 0, 0) > 0, true);
        due("read(1, 0)", v.read(1, 0), 59);
    }

    private static void noEpochToTakeAlong() {
        part = "PART 2: the halves change when no closed epoch is left";
        Twin v = new Twin(8, 8, 1);
        v.make(0, 3, false);
        v.write(1, 0, 1);
        v.sync();
        twoRecords(v, 7);
        v.home();
        twoRecords(v, 3);
        due("24 are used", v.word(FLASH, 24, 1, true), 24);
        twoRecords(v, 1);
        // with one epoch that may wait, 24 landed ahead of the change: 25 is at the first place
        block(v, FLASH, 25, 2, 1);
        due("the first place", v.word(FLASH, 26, 1, true), 25);
        due("the second place", v.word(FLASH, 27, 1, true), 26);
        block(v, FLASH, 28);
    }

    private static void withoutTheFlash() {
        part = "PART 2: without the flash a block is read and written on the disc itself";
        Twin v = onDisc();
        int[] had = {v.count(15), v.count(17), v.count(14), v.count(16)};
        due("read(1, 0)", v.read(1, 0), 5);
        due("acts of a read", v.count(14), had[2]);
        v.write(1, 16, 7);
        v.sync();
        // 29, 30, 44 behind (1, ..), then (2, ..)
        due("writes", v.count(14), had[2] + 5);
        due("flushes", v.count(16), had[3] + 2);
        due("home()", v.home(), 3);
        due("writes", v.count(14), had[2] + 9);
        due("flushes", v.count(16), had[3] + 4);
        due("writes to the flash", v.count(15), had[0]);
        due("flushes of the flash", v.count(17), had[1]);
        block(v, DISC, 63, 7);
        counts(v, 3, NONE, NONE, NONE);
    }

    private static void attachBounds() {
        part = "18: WRONG, it is in use; the identity rises by 1";
        Twin v = big();
        due("attach()", v.attach(), WRONG);
        v.crash(0);
        due("attach()", v.attach(), DOWN);
        v.mount(true, 0, 0);
        due("attach()", v.attach(), WRONG);
        v.crash(0);
        v.mount(false, 0, 0);
        block(v, DISC, 0, 2);
        due("attach()", v.attach(), 0);
        block(v, DISC, 0, 3);
        block(v, FLASH, 0, 1, 3);
        block(v, FLASH, 25);
        due("attach()", v.attach(), WRONG);
        counts(v, 0, 1, 1, 0, 1, 0, 0);
        for (int i = 0; i < 64; i++) {
            slotIs(v, i, 0, NONE, 0, 0, i % 8 == 0 ? 1 : 0);
        }
        v.make(0, 3, false);
        due("sync()", v.sync(), 2);
        due("the first place is next", v.word(FLASH, 1, 1, true), 1);
    }

    private static void attachBeginsAnew() {
        part = "18: generation 1, whatever it was; the next place is the first one";
        Twin v = fileOf(2, new Twin(8, 8, 1));
        twoRecords(v, 3);
        v.home();
        block(v, FLASH, 25, 2, 1);
        landAll(v);
        v.crash(0);
        int landed = v.mount(false, 0, 0);
        due("attach()", v.attach(), 0);
        block(v, FLASH, 0, 1, 3);
        v.write(1, 0, 9);
        due("sync()", v.sync(), landed + 2);
        due("generation", v.word(FLASH, 1, 0, true), 1);
        due("epoch", v.word(FLASH, 1, 1, true), landed + 1);
        due("generation", v.word(FLASH, 2, 0, true), 1);
        block(v, FLASH, 25);
        twoRecords(v, 12);
        block(v, FLASH, 25, 2, 3);
    }

    private static void slotBounds() {
        part = "19: NONE for others";
        Twin v = new Twin(3, 5, 1);
        for (int i : new int[] {MIN, -1, 15, 16, 64, MAX}) {
            for (int what = -1; what <= 5; what++) {
                due("slot(" + i + ", " + what + ")", v.slot(i, what), NONE);
            }
        }
        for (int i : new int[] {0, 14}) {
            slotIs(v, i, 0, NONE, 0, 0, i == 0 ? 1 : 0);
            for (int what : new int[] {MIN, -1, 5, MAX}) {
                due("slot(" + i + ", " + what + ")", v.slot(i, what), NONE);
            }
        }
        v.make(0, 3, false);
        v.sync();
        slotIs(v, 5, 1, 1, 0, 1, 0);
        v.crash(0);
        for (int what = -1; what <= 5; what++) {
            due("while it is down", v.slot(0, what), NONE);
        }
        v.mount(false, 0, 0);
        for (int what = -1; what <= 5; what++) {
            due("without the flash", v.slot(0, what), NONE);
        }
        v.attach();
        slotIs(v, 0, 0, NONE, 0, 0, 1);
    }
}
