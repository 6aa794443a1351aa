/** PART 4 of the document and promises 17, 18 and 21: each sentence that names a bound has a test of its own. */
public final class MountEdgesTest extends Check {
    public static void main(String[] args) {
        limitOfEachAct();
        noLimit();
        limitAboveOneThousand();
        askedFirst();
        greaterGeneration();
        epochWithoutLast();
        epochsAboveLanded();
        openEpoch();
        generationOfARecord();
        generationWithoutRecords();
        recordsAreTakenAlong();
        lastPlacesOfAHalf();
        slotsAreNoPlaces();
        noReadingOfPartTwo();
        identityRises();
        identityOfTheFlash();
        landingOfSixteen();
        landingOfBlockZero();
        commitCutOff();
        commitCutOffWithoutFlash();
        fullJournal();
        oldEndOfACommit();
        wordsThatLookLikeTheJournal();
        commitBehindACutOffOne();
        laterInPlaceOfEarlier();
        nothingInTheJournal();
        lostEpochs();
        attachAtEachAct();
        countBounds();
        countsWhileDown();
        countsOfActs();
        end("the edges of mounting hold");
    }

    /** File 1, name 3, with two blocks, 32 ints, all on the disc; no slot has anything. */
    private static Twin settled() {
        Twin v = big();
        v.make(0, 3, false);
        v.write(1, 0, 5);
        v.write(1, 16, 6);
        v.write(1, 31, 6);
        v.home();
        landAll(v);
        v.crash(0);
        due("mount", v.mount(true, 0, 0), 4);
        return v;
    }

    /** It is down, behind a landing that was cut off; the journal has two commits. */
    private static Twin cutOff() {
        Twin v = settled();
        v.write(1, 0, 7);
        v.sync();
        v.write(1, 16, 8);
        v.sync();
        v.limit(7, 0);
        due("land()", v.land(), DOWN);
        due("HEAD", v.word(DISC, 1, 0, true), 1);
        return v;
    }

    private static void limitOfEachAct() {
        part = "17: a limit of n acts, if it is above 0, holds from the beginning of it on";
        for (boolean flash : new boolean[] {true, false}) {
            Twin down = cutOff();
            Twin whole = down.copy();
            int answer = whole.mount(flash, 0, 0);
            int acts = acts(whole) - acts(down);
            due("acts", acts > 6, true);
            for (long mask : new long[] {0, -1, 0x5555555555555555L}) {
                for (int n = 1; n <= acts + 1; n++) {
                    Twin v = down.copy();
                    due("mount(" + flash + ", " + n + ")", v.mount(flash, n, mask), n <= acts ? DOWN : answer);
                    due("acts", acts(v) - acts(down), n - 1);
                    counts(v, 0, n <= acts ? 0 : 1);
                    counts(v, 12, 0, 0);
                    if (n > acts) {
                        // the limit still holds: the next act is not done
                        v.write(1, 32, 1);
                        due("sync()", v.sync(), DOWN);
                        due("acts", acts(v) - acts(down), acts);
                    }
                    // without the flash what had not landed is lost
                    due("mount(" + flash + ", 0)", v.mount(flash, 0, 0) >= 0, true);
                    due("read(1, 0)", v.read(1, 0), flash ? 7 : 5);
                    due("read(1, 16)", v.read(1, 16), flash ? 8 : 6);
                }
            }
        }
    }

    private static void noLimit() {
        part = "17: a limit that is not above 0: there is none";
        for (int n : new int[] {MIN, -1000, -1, 0}) {
            Twin v = cutOff();
            due("mount(true, " + n + ", -1)", v.mount(true, n, -1) > 0, true);
            v.write(1, 0, 9);
            due("sync()", v.sync() > 0, true);
            v.crash(0);
            due("mount(false, " + n + ", -1)", v.mount(false, n, -1) > 0, true);
        }
    }

    private static void limitAboveOneThousand() {
        part = "17: a limit of n acts, however great";
        for (int n : new int[] {1000, 1001, 1100}) {
            Twin v = cutOff();
            int before = acts(v);
            due("mount", v.mount(true, n, 0) > 0, true);
            int answer = 0;
            for (int k = 0; k < 200 && answer != DOWN; k++) {
                v.write(1, 0, k);
                answer = v.sync();
            }
            due("sync()", answer, DOWN);
            due("acts", acts(v) - before, n - 1);
        }
        Twin v = cutOff();
        due("mount(true, MAX, 0)", v.mount(true, MAX, 0) > 0, true);
        due("land()", v.land() > 0, true);
        v.limit(1, 0);
        due("land(), a limit in place of it", v.land(), DOWN);
    }

    private static void askedFirst() {
        part = "17, PART 4: no half has the disc's identity, this is asked first";
        Twin v = cutOff();
        int epoch = v.count(2);
        v.lose(0);
        int acts = acts(v);
        for (int n : new int[] {0, 1, MAX}) {
            due("mount(true, " + n + ", 0)", v.mount(true, n, 0), NONE);
            due("acts", acts(v), acts);
            block(v, DISC, 1, 1, epoch, 2);
            due("count(0)", v.count(0), 0);
        }
        due("mount(false, 0, 0)", v.mount(false, 0, 0), epoch);
        block(v, DISC, 1, 0, epoch, 0);
        v = big();
        v.crash(0);
        due("mount(true, 0, 0), the flash of the beginning", v.mount(true, 0, 0), 0);
        v.crash(0);
        v.mount(false, 0, 0);
        v.crash(0);
        due("mount(true, 0, 0), the identity has risen", v.mount(true, 0, 0), NONE);
        v.mount(false, 0, 0);
        v.attach();
        v.crash(0);
        due("mount(true, 0, 0), a flash that was attached", v.mount(true, 0, 0), 0);
    }

    private static void greaterGeneration() {
        part = "17, PART 4: the half with the greater generation counts";
        Twin v = big();
        for (int n = 1; n <= 6; n++) {
            v.make(0, n, false);
            v.sync();
            v.crash(0);
            due("mount", v.mount(true, 0, 0) > 0, true);
            due("generation", v.word(FLASH, n % 2 == 1 ? 25 : 0, 0, true), n + 1);
            due("the other one", v.word(FLASH, n % 2 == 1 ? 0 : 25, 0, true), n);
            due("find(0, " + n + ")", v.find(0, n), n);
        }
        // cut off ahead of the first block of the other half the old one still counts
        v = big();
        v.make(0, 1, false);
        v.sync();
        v.crash(0);
        due("mount", v.mount(true, 4, -1), DOWN);
        block(v, FLASH, 25);
        due("records are there", v.word(FLASH, 26, 0, true), 2);
        due("mount", v.mount(true, 5, -1), DOWN);
        block(v, FLASH, 25, 2, 1);
        due("mount", v.mount(true, 0, 0), 4);
        block(v, FLASH, 0, 3, 1);
        due("find(0, 1)", v.find(0, 1), 1);
    }

    /** Six blocks are changed; their epoch has 7 slots, two records. */
    private static Twin sixChanged() {
        Twin v = big();
        v.make(0, 3, false);
        for (int k = 0; k < 3; k++) {
            v.write(1, 16 * k, 5);
        }
        due("count(7)", v.count(7), 6);
        return v;
    }

    private static void epochWithoutLast() {
        part = "17, PART 4: epochs that have a LAST record are closed, others are not";
        // 7 slots, a record, flush, the LAST one, flush
        int[] limits = {8, 9, 9, 10, 11, 11, 12};
        long[] masks = {-1, 0, -1, -1, 0, -1, 0};
        boolean[] first = {false, false, true, true, true, true, true};
        int[] closed = {0, 0, 0, 0, 0, 1, 1};
        for (int k = 0; k < limits.length; k++) {
            Twin v = sixChanged();
            v.limit(limits[k], masks[k]);
            due("sync()", v.sync(), DOWN);
            due("its first record", v.word(FLASH, 1, 3, true), first[k] ? 6 : 0);
            due("its LAST record", v.word(FLASH, 2, 2, true), closed[k]);
            due("mount, limit " + limits[k], v.mount(true, 0, 0), closed[k]);
            counts(v, 2, 0, closed[k] + 1, closed[k], 0, 1);
            int dirty = 0;
            for (int i = 0; i < 64; i++) {
                dirty += v.slot(i, 0) == 2 ? 1 : 0;
                due("free or dirty", v.slot(i, 0) != 1, true);
                due("no mark", v.slot(i, 3), 0);
                due("hand", v.slot(i, 4), i % 8 == 0 ? 1 : 0);
            }
            due("dirty", dirty, 7 * closed[k]);
            due("find(0, 3), not committed", v.find(0, 3), NONE);
        }
    }

    private static void epochsAboveLanded() {
        part = "17, PART 4: epochs above LANDED are closed, their slots dirty; all others are free";
        for (int lands = 0; lands <= 4; lands++) {
            Twin v = settled();
            v.write(1, 0, 7);
            v.sync();
            v.home();
            int first = v.count(2) + 1;
            for (int n = 0; n < lands; n++) {
                v.land();
            }
            v.crash(-1);
            due("mount", v.mount(true, 0, 0), first + 3);
            counts(v, 2, first - 1 + lands, first + 4, 4 - lands, 0);
            int[] slots = new int[5];
            for (int i = 0; i < 64; i++) {
                int epoch = v.slot(i, 2);
                slots[epoch == 0 ? 0 : epoch - first + 1]++;
                due("free or dirty", v.slot(i, 0), epoch == 0 ? 0 : 2);
            }
            // (1, ..) and a block; (2, ..); the block at home; block 0
            int[] want = {0, 2, 1, 1, 1};
            for (int e = 1; e <= 4; e++) {
                due("slots of epoch " + e, slots[e], e > lands ? want[e] : 0);
            }
            due("read(1, 0)", v.read(1, 0), 7);
        }
    }

    private static void openEpoch() {
        part = "17, PART 4: the epoch behind the last of these, or behind LANDED, is open";
        Twin v = big();
        v.crash(0);
        due("none closed, none landed", v.mount(true, 0, 0), 0);
        due("count(3)", v.count(3), 1);
        v.make(0, 3, false);
        v.home();
        v.land();
        v.crash(0);
        due("4 closed, 1 landed", v.mount(true, 0, 0), 4);
        counts(v, 2, 1, 5, 3, 0);
        landAll(v);
        v.crash(0);
        due("all landed", v.mount(true, 0, 0), 4);
        counts(v, 2, 4, 5, 0, 0);
        v.crash(0);
        due("without the flash: LANDED", v.mount(false, 0, 0), 4);
    }

    private static void generationOfARecord() {
        part = "17, PART 4: each of its places with its generation, no other";
        Twin v = big();
        for (int n = 1; n <= 3; n++) {
            v.make(0, n, false);
            v.sync();
        }
        v.home();
        landAll(v);
        // epoch 9: the first of two records stays, at the ninth place, without its LAST one
        for (int f = 1; f <= 2; f++) {
            v.write(f, 0, 5);
            v.write(f, 16, 5);
        }
        due("count(7)", v.count(7), 7);
        v.limit(10, -1);
        due("sync()", v.sync(), DOWN);
        due("generation", v.word(FLASH, 9, 0, true), 1);
        due("epoch", v.word(FLASH, 9, 1, true), 9);
        due("last", v.word(FLASH, 9, 2, true), 0);
        due("mount, half 1", v.mount(true, 0, 0), 8);
        // another epoch 9, of three slots
        v.make(0, 9, false);
        v.remove(0, 9);
        due("sync()", v.sync(), 10);
        v.crash(0);
        due("mount, half 0", v.mount(true, 0, 0), 12);
        due("the old record is still there", v.word(FLASH, 9, 1, true), 9);
        v.crash(0);
        due("mount", v.mount(true, 0, 0), 12);
        int dirty = 0;
        for (int i = 0; i < 64; i++) {
            dirty += v.slot(i, 2) == 9 ? 1 : 0;
        }
        due("slots of epoch 9", dirty, 3);
    }

    private static void generationWithoutRecords() {
        part = "17, PART 4: the half with the greater generation counts, with no record in it too";
        Twin v = settled();
        block(v, FLASH, 25, 2, 1);
        block(v, FLASH, 26);
        for (int n = 3; n <= 6; n++) {
            v.crash(0);
            due("mount", v.mount(true, 0, 0), 4);
            block(v, FLASH, n % 2 == 1 ? 0 : 25, n, 1);
            block(v, FLASH, n % 2 == 1 ? 25 : 0, n - 1, 1);
        }
    }

    private static void recordsAreTakenAlong() {
        part = "17, PART 2: records of each closed epoch, 6 pairs in each, each's last one a LAST one";
        // changed blocks of the first commit: slots are one more
        for (int n : new int[] {4, 5, 6, 11}) {
            Twin v = big();
            for (int f = 1; f <= 8; f++) {
                v.make(0, 10 + f, false);
            }
            for (int f = 1; f <= 7; f++) {
                v.write(f, 0, 5);
            }
            v.home();
            landAll(v);
            for (int f = 1; f <= Math.min(n, 7); f++) {
                v.write(f, 0, 6);
            }
            if (n == 11) {
                v.make(0, 9, false);
            }
            due("count(7)", v.count(7), n);
            int epoch = v.count(3);
            due("sync()", v.sync(), epoch + 1);
            v.crash(0);
            due("mount", v.mount(true, 0, 0), epoch + 3);
            int slots = n + 1;
            int place = 26;
            for (int left = slots; left > 0; left -= 6) {
                due("generation", v.word(FLASH, place, 0, true), 2);
                due("epoch", v.word(FLASH, place, 1, true), epoch);
                due("last", v.word(FLASH, place, 2, true), left <= 6 ? 1 : 0);
                due("how many", v.word(FLASH, place, 3, true), Math.min(6, left));
                place++;
            }
            due("the next epoch", v.word(FLASH, place, 1, true), epoch + 1);
            due("its LAST one", v.word(FLASH, place, 2, true), 1);
            due("behind these", v.word(FLASH, place + 1, 1, true), epoch + 2);
        }
    }

    private static void lastPlacesOfAHalf() {
        part = "17, PART 4: each of its 24 places, the last one too";
        for (int half = 0; half < 2; half++) {
            for (int epochs = 1; epochs <= 2; epochs++) {
                Twin v = new Twin(8, 8, epochs);
                v.make(0, 3, false);
                v.write(1, 0, 1);
                v.home();
                landAll(v);
                for (int n = 0; n < half; n++) {
                    v.crash(0);
                    v.mount(true, 0, 0);
                }
                int last = 25 * half + 24;
                int n = 0;
                for (; n < 20 && v.word(FLASH, last, 0, true) == 0; n++) {
                    if (n == 5) {
                        // else the journal would be too short between
                        v.home();
                    }
                    v.write(1, 0, 50 + n);
                    v.sync();
                }
                // the last (2, ..) is at the last place
                int epoch = v.count(3) - 1;
                due("the last place", v.word(FLASH, last, 1, true), epoch);
                v.crash(0);
                due("mount", v.mount(true, 0, 0) > epoch, true);
                due("read(1, 0)", v.read(1, 0), 49 + n);
            }
        }
    }

    /** File 1's block 48 is in slot 0, behind half 1's places, with words like those of a record. */
    private static Twin likeARecord(int epoch, int last) {
        Twin v = big();
        v.make(0, 3, false);
        v.write(1, 0, 5);
        int[] words = {2, epoch, last, 1, 5, 43};
        for (int k = 0; k < 5; k++) {
            v.write(1, 16 * k, 5);
        }
        for (int w = 0; w < 6; w++) {
            v.write(1, 64 + w, words[w]);
        }
        v.home();
        landAll(v);
        v.crash(0);
        v.mount(true, 0, 0);
        v.read(1, 64);
        slotIs(v, 0, 1, 48, 0, 0);
        block(v, FLASH, 25, 2, 1);
        return v;
    }

    private static void slotsAreNoPlaces() {
        part = "17, PART 2: the 24 others are places, slots are behind them";
        int open = likeARecord(0, 0).count(3);
        for (int last = 0; last < 2; last++) {
            // of an epoch that is closed, of one without a LAST record, of another one
            for (int epoch : new int[] {open, open + 2, 1000}) {
                Twin v = likeARecord(epoch, last);
                v.write(1, 0, 6);
                due("sync()", v.sync(), open + 1);
                due("slot 0", v.word(FLASH, 50, 1, true), epoch);
                for (int k = 0; k < 5; k++) {
                    v.write(1, 16 * k + 1, 7);
                }
                v.write(1, 100, 7);
                // 10 slots; then a record, and the power goes ahead of the LAST one
                int slots = v.count(7) + 1;
                v.limit(slots + 3, -1);
                due("sync()", v.sync(), DOWN);
                due("a record without its LAST one", v.word(FLASH, 28, 1, true), open + 2);
                due("mount", v.mount(true, 0, 0), open + 3);
                due("slot 5 is free", v.slot(5, 0), 0);
                due("read(1, 0)", v.read(1, 0), 6);
            }
        }
    }

    private static void noReadingOfPartTwo() {
        part = "17, PART 4: nothing is marked, no slot is found";
        Twin v = settled();
        // the halves changed, nothing more
        for (int i = 0; i < 64; i++) {
            slotIs(v, i, 0, NONE, 0, 0, i % 8 == 0 ? 1 : 0);
        }
        int[] had = {v.count(14), v.count(15), v.count(16), v.count(17)};
        v.crash(0);
        v.mount(true, 0, 0);
        counts(v, 14, had[0], had[1] + 1, had[2], had[3] + 2);
        v.write(1, 0, 9);
        v.sync();
        v.home();
        v.crash(0);
        v.mount(true, 0, 0);
        for (int i = 0; i < 64; i++) {
            due("mark", v.slot(i, 3), 0);
            due("clean", v.slot(i, 0) != 1, true);
        }
        counts(v, 12, 0, 0);
    }

    private static void identityRises() {
        part = "17, PART 4: without the flash the disc's identity rises by 1";
        Twin v = big();
        for (int n = 2; n <= 9; n++) {
            v.crash(0);
            due("mount(false)", v.mount(false, 0, 0), 0);
            block(v, DISC, 0, n);
        }
        due("attach()", v.attach(), 0);
        block(v, DISC, 0, 10);
        v.crash(0);
        due("mount(true)", v.mount(true, 0, 0), 0);
        block(v, DISC, 0, 10);
        block(v, FLASH, 25, 2, 10);
    }

    private static void identityOfTheFlash() {
        part = "17, PART 4: a flash with the disc's identity can be mounted, another one can't";
        // the new identity is pending when the power goes
        for (long mask : new long[] {0, -1}) {
            Twin v = settled();
            v.crash(0);
            due("mount(false, 2, mask)", v.mount(false, 2, mask), DOWN);
            block(v, DISC, 0, mask == 0 ? 1 : 2);
            due("mount(true)", v.mount(true, 0, 0), mask == 0 ? 4 : NONE);
        }
        // an attach that was cut off left the next identity on the flash; the disc comes to it
        Twin v = settled();
        v.crash(0);
        v.mount(false, 0, 0);
        v.limit(3, 0);
        due("attach()", v.attach(), DOWN);
        block(v, FLASH, 0, 1, 3);
        block(v, DISC, 0, 2);
        due("mount(true)", v.mount(true, 0, 0), NONE);
        due("mount(false)", v.mount(false, 0, 0), 4);
        block(v, DISC, 0, 3);
        v.write(1, 0, 9);
        v.home();
        v.crash(0);
        due("mount(true)", v.mount(true, 0, 0), 4);
        due("read(1, 0)", v.read(1, 0), 9);
    }

    private static void landingOfSixteen() {
        part = "17, PART 4: with HEAD's word 0 = 1 each block of the LIST gets its words in its place";
        Twin v = big();
        v.make(0, 3, false);
        for (int k = 0; k < 20; k++) {
            v.write(1, 16 * k, 1000 + k);
        }
        v.home();
        landAll(v);
        for (int k = 0; k < 16; k++) {
            v.write(1, 16 * k, 2000 + k);
        }
        v.sync();
        int epoch = v.count(3);
        due("home()", v.home(), 16);
        while (v.count(2) < epoch - 1) {
            v.land();
        }
        // 17 writes, flush, HEAD, flush, 16 writes, flush, HEAD, flush
        int[] limits = {18, 19, 20, 21, 28, 37, 38, 39};
        for (int n : limits) {
            Twin w = v.copy();
            w.limit(n, 0);
            due("land()", w.land(), DOWN);
            boolean begun = n > 20;
            due("HEAD, limit " + n, w.word(DISC, 1, 0, true), begun ? 1 : 0);
            due("how many, limit " + n, w.word(DISC, 1, 2, true), begun ? 16 : 0);
            due("LANDED", w.count(2), begun ? epoch : epoch - 1);
            int[] had = {w.count(14), w.count(16)};
            w.lose(0);
            due("mount(false)", w.mount(false, 0, 0), begun ? epoch : epoch - 1);
            due("writes", w.count(14) >= had[0] + (begun ? 16 + 1 + 1 : 1), true);
            block(w, DISC, 1, 0, begun ? epoch : epoch - 1, 0);
            if (begun) {
                for (int k = 0; k < 16; k++) {
                    due("block " + k, w.word(DISC, 62 + (k < 4 ? k : k + 1), 0, true), 2000 + k);
                }
            }
        }
    }

    private static void landingOfBlockZero() {
        part = "17, PART 4: each block of the LIST, block 0 too";
        Twin v = big();
        v.make(0, 3, false);
        v.home();
        for (int e = 1; e <= 3; e++) {
            due("land()", v.land(), e);
        }
        // a copy, the list, flush, HEAD, flush: cut off at the write of block 0
        v.limit(6, 0);
        due("land()", v.land(), DOWN);
        block(v, DISC, 1, 1, 4, 1);
        block(v, DISC, 19, 1);
        v.lose(0);
        int[] had = {v.count(14), v.count(16)};
        due("mount(false)", v.mount(false, 0, 0), 4);
        block(v, DISC, 19, 2);
        // block 0, HEAD, the identity: with the sequence of block 0 the journal has nothing
        due("writes", v.count(14), had[0] + 3);
        due("flushes", v.count(16), had[1] + 3);
        counts(v, 6, 2);
        due("find(0, 3)", v.find(0, 3), 1);
    }

    private static void commitCutOff() {
        part = "17, PART 4: the commits that have their (2, the sequence) are kept, with the flash";
        Twin v = settled();
        v.write(1, 0, 7);
        v.sync();
        v.write(1, 0, 8);
        v.sync();
        v.write(1, 0, 9);
        int sequence = v.count(6);
        int acts = acts(v);
        Twin whole = v.copy();
        whole.sync();
        acts = acts(whole) - acts;
        for (int n = 1; n <= acts; n++) {
            for (long mask : new long[] {0, -1}) {
                Twin w = v.copy();
                w.limit(n, mask);
                due("sync()", w.sync(), DOWN);
                due("mount", w.mount(true, 0, 0) > 0, true);
                boolean there = n == acts && mask == -1;
                due("read(1, 0), limit " + n, w.read(1, 0), there ? 9 : 8);
                counts(w, 6, there ? sequence + 1 : sequence, 0, 0, 28);
            }
        }
    }

    private static void commitCutOffWithoutFlash() {
        part = "17, PART 4: the commits that have their (2, the sequence) are kept, without the flash";
        Twin v = settled();
        v.crash(0);
        v.mount(false, 0, 0);
        v.write(1, 0, 7);
        v.sync();
        v.write(1, 0, 8);
        int sequence = v.count(6);
        // (1, ..), the block, flush, (2, ..), flush
        for (int n = 1; n <= 5; n++) {
            for (int mask = 0; mask < 4; mask++) {
                Twin w = v.copy();
                w.limit(n, mask);
                due("sync()", w.sync(), DOWN);
                due("mount", w.mount(false, 0, 0), 4);
                boolean there = n == 5 && (mask & 1) == 1;
                due("read(1, 0), limit " + n + ", mask " + mask, w.read(1, 0), there ? 8 : 7);
                counts(w, 6, there ? sequence + 1 : sequence, 0, 0, 28);
            }
        }
        v.limit(6, 0);
        due("sync()", v.sync(), 4);
    }

    private static void fullJournal() {
        part = "17, PART 4: all within the journal";
        Twin v = big();
        v.make(0, 3, false);
        v.make(0, 4, false);
        v.write(1, 0, 70);
        v.sync();
        for (int n = 1; n <= 7; n++) {
            v.write(1, 0, 70 + n);
            v.sync();
        }
        counts(v, 6, 9, 0, 5, 0);
        v.crash(0);
        due("mount", v.mount(true, 0, 0), 18);
        counts(v, 6, 9, 0, 0, 28);
        due("read(1, 0)", v.read(1, 0), 77);
        due("find(0, 4)", v.find(0, 4), 2);
        landAll(v);
        block(v, DISC, 19, 9);
        // a journal of which the first block has an old sequence is not done again
        v.crash(0);
        int flushes = v.count(17);
        due("mount", v.mount(true, 0, 0), 18);
        due("flushes", v.count(17), flushes + 2);
        due("count(6)", v.count(6), 9);
    }

    /** A commit that is cut off ahead of its (2, the sequence), which all epochs ahead of it were closed for. */
    private static void cutAheadOfItsEnd(Twin v) {
        int epoch = v.count(3);
        int blocks = v.count(7) + 1;
        // without the flash: the blocks, flush; with it: the slots, records, flush, LAST one, flush
        v.limit(v.count(1) == 0 ? blocks + 2 : blocks + (blocks + 5) / 6 + 3, 0);
        due("sync()", v.sync(), DOWN);
        if (v.word(FLASH, 0, 0, true) != 0) {
            due("mount", v.mount(true, 0, 0), epoch);
        } else {
            due("mount", v.mount(false, 0, 0) >= 0, true);
        }
    }

    private static Twin onFlashOrDisc(boolean flash) {
        Twin v = settled();
        if (!flash) {
            v.lose(0);
            v.mount(false, 0, 0);
        }
        return v;
    }

    private static void oldEndOfACommit() {
        part = "17, PART 4: (2, the sequence), not an older one's";
        for (boolean flash : new boolean[] {true, false}) {
            Twin v = onFlashOrDisc(flash);
            v.write(1, 0, 7);
            v.home();
            landAll(v);
            block(v, DISC, 22, 2, 2);
            // as long as the one that is at home: behind its blocks is the old (2, 2)
            v.write(1, 0, 8);
            cutAheadOfItsEnd(v);
            due("read(1, 0)", v.read(1, 0), 7);
            due("count(6)", v.count(6), 3);
        }
    }

    private static void wordsThatLookLikeTheJournal() {
        part = "11, 17, PART 3: 0 for a word 0 that is 1 or 2: no file's words are taken for the journal's";
        for (boolean flash : new boolean[] {true, false}) {
            // block 44 is behind 43 in the journal: where the next commit's end would be
            Twin v = onFlashOrDisc(flash);
            v.write(1, 0, 7);
            v.write(1, 16, 2);
            v.write(1, 17, 3);
            v.home();
            landAll(v);
            block(v, DISC, 22, 0, 3, 0, 0, 0, 0, 0, 0, 0, 0, 0, 0, 0, 0, 0, 6);
            v.write(1, 0, 8);
            cutAheadOfItsEnd(v);
            due("read(1, 0), an end", v.read(1, 0), 7);
            due("count(6)", v.count(6), 3);
        }
        for (boolean flash : new boolean[] {true, false}) {
            Twin v = onFlashOrDisc(flash);
            for (int k = 2; k <= 4; k++) {
                v.write(1, 16 * k + 15, 5);
            }
            v.home();
            // blocks 2 to 4 of the file: a beginning, a block and an end, where one behind the next commit would be
            int next = v.count(6) + 2;
            int[] places = {0, 16, 32, 33, 34, 35, 48, 64, 65};
            int[] words = {7, 7, 1, next, 1, 43, 666, 2, next};
            for (int k = 0; k < places.length; k++) {
                v.write(1, places[k], words[k]);
            }
            due("count(7)", v.count(7), 5);
            v.home();
            landAll(v);
            block(v, DISC, 23, 0, next, 1, 43, 0, 0, 0, 0, 0, 0, 0, 0, 0, 0, 0, 5);
            block(v, DISC, 25, 0, next, 0, 0, 0, 0, 0, 0, 0, 0, 0, 0, 0, 0, 0, 5);
            v.write(1, 0, 10);
            v.sync();
            v.crash(0);
            v.mount(flash, 0, 0);
            due("count(6), a beginning", v.count(6), next);
            due("read(1, 0)", v.read(1, 0), 10);
            due("read(1, 32)", v.read(1, 32), 1);
            due("read(1, 48)", v.read(1, 48), 666);
            due("read(1, 64)", v.read(1, 64), 2);
        }
    }

    private static void commitBehindACutOffOne() {
        part = "11, PART 2: what words are not told to be is 0, behind a commit that was cut off too";
        for (int acts = 2; acts <= 4; acts++) {
            Twin v = settled();
            for (int w = 0; w < 16; w++) {
                v.write(1, w, 90 + w);
                v.write(1, 16 + w, 70 + w);
            }
            v.limit(acts, 0);
            due("sync()", v.sync(), DOWN);
            v.mount(true, 0, 0);
            v.write(1, 0, 2);
            for (int w = 1; w < 16; w++) {
                v.write(1, w, 30 + w);
            }
            int sequence = v.count(6);
            v.sync();
            landAll(v);
            block(v, DISC, 20, 1, sequence, 1, 43, 0, 0, 0, 0, 0, 0, 0, 0, 0, 0, 0, 2);
            block(v, DISC, 21, 0, 31, 32, 33, 34, 35, 36, 37, 38, 39, 40, 41, 42, 43, 44, 45);
            block(v, DISC, 22, 2, sequence);
            v.home();
            landAll(v);
            block(v, DISC, 19, sequence + 1);
        }
    }

    private static void laterInPlaceOfEarlier() {
        part = "17, PART 4: later ones in place of earlier ones";
        Twin v = settled();
        v.write(1, 0, 1);
        v.write(1, 16, 2);
        v.sync();
        v.write(1, 0, 2);
        v.sync();
        v.write(1, 0, 3);
        v.sync();
        counts(v, 8, 2);
        int epochs = v.sync();
        v.crash(0);
        // two blocks at home in one epoch, block 0 in the next one
        due("mount", v.mount(true, 0, 0), epochs + 2);
        due("read(1, 0)", v.read(1, 0), 3);
        due("read(1, 16)", v.read(1, 16), 2);
        int home = 0;
        for (int i = 0; i < 64; i++) {
            home += v.slot(i, 2) == epochs + 1 ? 1 : 0;
        }
        due("blocks at home", home, 2);
    }

    private static void nothingInTheJournal() {
        part = "17, PART 4: if any was, all is brought home";
        Twin v = big();
        v.crash(0);
        int[] had = {v.count(14), v.count(15), v.count(16), v.count(17)};
        due("mount(true)", v.mount(true, 0, 0), 0);
        counts(v, 14, had[0], had[1] + 1, had[2], had[3] + 2);
        v.crash(0);
        due("mount(false)", v.mount(false, 0, 0), 0);
        counts(v, 14, had[0] + 1, had[1] + 1, had[2] + 1, had[3] + 2);
        v.make(0, 3, false);
        v.sync();
        had = new int[] {v.count(14), v.count(16)};
        v.crash(0);
        v.mount(false, 0, 0);
        // the identity; 29, 30, 42 at home; block 0
        due("writes", v.count(14), had[0] + 1 + 3 + 1);
        due("flushes", v.count(16), had[1] + 3);
        due("find(0, 3)", v.find(0, 3), 1);
        counts(v, 6, 2, 0, 0, 28);
    }

    private static void lostEpochs() {
        part = "16, 17: without the flash the tree is as whole epochs landed, in order";
        Twin v = big();
        for (int n = 1; n <= 4; n++) {
            v.make(0, n, false);
            v.sync();
        }
        due("count(4)", v.count(4), 8);
        for (int lands = 0; lands <= 8; lands++) {
            Twin w = v.copy();
            for (int n = 0; n < lands; n++) {
                w.land();
            }
            w.lose(-1);
            due("mount(false)", w.mount(false, 0, 0), lands);
            // each commit is there with its second epoch
            for (int n = 1; n <= 4; n++) {
                due(lands + " landed: find(0, " + n + ")", w.find(0, n), lands >= 2 * n ? n : NONE);
            }
            due("count(6)", w.count(6), 1 + lands / 2);
        }
    }

    private static void attachAtEachAct() {
        part = "18: the flash has 0 in all words, at once; then four acts";
        for (int n = 1; n <= 5; n++) {
            for (int mask = 0; mask < 2; mask++) {
                Twin v = settled();
                v.crash(0);
                v.mount(false, 0, 0);
                int acts = acts(v);
                v.limit(n, mask);
                due("attach()", v.attach(), n < 5 ? DOWN : 0);
                due("acts", acts(v), acts + Math.min(4, n - 1));
                boolean written = n > 2 || n == 2 && mask == 1;
                boolean risen = n > 4 || n == 4 && mask == 1;
                block(v, FLASH, 0, written ? new int[] {1, 3} : new int[0]);
                for (int b = 1; b < 114; b++) {
                    due("the flash's words", v.word(FLASH, b, 0, true), 0);
                }
                block(v, DISC, 0, risen ? 3 : 2);
                if (n < 5) {
                    due("mount(true)", v.mount(true, 0, 0), risen ? 4 : NONE);
                    due("mount(false)", v.mount(false, 0, 0), risen ? NONE : 4);
                    due("read(1, 16)", v.read(1, 16), 6);
                }
            }
        }
    }

    private static void countBounds() {
        part = "21: NONE for others";
        Twin v = big();
        for (int what : new int[] {MIN, -2, -1, 18, 19, 100, MAX}) {
            due("count(" + what + ")", v.count(what), NONE);
        }
        for (int what = 0; what < 18; what++) {
            due("count(" + what + ")", v.count(what) >= 0, true);
        }
        v.crash(0);
        for (int what : new int[] {MIN, -1, 18, MAX}) {
            due("count(" + what + ")", v.count(what), NONE);
        }
    }

    private static void countsWhileDown() {
        part = "21: 0 and 1: 0 while it is down; 3 to 5: NONE, or without the flash; 6 to 11: NONE";
        Twin v = settled();
        v.write(1, 0, 7);
        v.sync();
        counts(v, 0, 1, 1, 4, 7, 2, 0, 3, 0, 1, 25, 2, 3, 0, 0);
        v.crash(0);
        counts(v, 0, 0, 0, 4, NONE, NONE, NONE, NONE, NONE, NONE, NONE, NONE, NONE, 0, 0);
        v.mount(false, 0, 0);
        counts(v, 0, 1, 0, 4, NONE, NONE, NONE, 2, 0, 0, 28, 2, 3, 0, 0);
        v.attach();
        counts(v, 0, 1, 1, 4, 5, 0, 0, 2, 0, 0, 28, 2, 3, 0, 0);
        v.lose(0);
        counts(v, 0, 0, 0, 4, NONE, NONE, NONE, NONE, NONE, NONE, NONE, NONE, NONE, 0, 0);
    }

    private static void countsOfActs() {
        part = "21: writes and flushes since the beginning, those that were done";
        Twin v = big();
        v.make(0, 3, false);
        for (int n = 1; n <= 11; n++) {
            Twin w = v.copy();
            w.limit(n, -1);
            w.sync();
            due("acts", acts(w), n - 1);
            w.lose(0);
            due("acts behind lose", acts(w), n - 1);
            w.mount(false, 0, 0);
            counts(w, 14, 1);
            counts(w, 16, 1);
            due("acts behind mount", acts(w), n + 1);
        }
    }
}
