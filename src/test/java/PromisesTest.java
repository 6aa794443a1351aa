/** For each promise of the document: ordinary inputs, the edges that it names, and wrong inputs. */
public final class PromisesTest extends Check {
    public static void main(String[] args) {
        newObject();
        nearestNumbers();
        makes();
        makeIsFull();
        finds();
        writes();
        writeIsFull();
        reads();
        readsFromSizeOn();
        readGoesDown();
        cuts();
        cutReadsItsBlock();
        removes();
        moves();
        moveIsFull();
        inodes();
        entries();
        syncs();
        commitsAhead();
        journalIsBroughtHome();
        lands();
        homes();
        limits();
        limitsAtEachAct();
        crashes();
        pendingWrites();
        loses();
        mounts();
        mountWithLimit();
        mountFinishesLanding();
        halvesChange();
        longEpochs();
        attaches();
        attachCutOff();
        slots();
        handsAndMarks();
        newestSlots();
        wordsOfDevices();
        countsOfAll();
        downAnswers();
        end("all promises hold");
    }

    private static void newObject() {
        part = "1, a new object";
        Twin v = new Twin(3, 4, 2);
        counts(v, 0, 1, 1, 0, 1, 0, 0, 1, 0, 0, 28, 1, 0, 0, 0, 0, 0, 0, 0);
        block(v, DISC, 0, 1);
        block(v, DISC, 1);
        block(v, DISC, 19, 1);
        block(v, DISC, 48);
        block(v, DISC, 49, 1);
        block(v, FLASH, 0, 1, 1);
        block(v, FLASH, 25);
        due("inode(0, 0)", v.inode(0, 0), 1);
        due("inode(0, 1)", v.inode(0, 1), 0);
        for (int i = 0; i < 12; i++) {
            slotIs(v, i, 0, NONE, 0, 0, i % 4 == 0 ? 1 : 0);
        }
        due("slot(12, 0)", v.slot(12, 0), NONE);
    }

    private static void nearestNumbers() {
        part = "1, numbers outside";
        int[] low = {0, -1, Integer.MIN_VALUE};
        int[] high = {9, 100, Integer.MAX_VALUE};
        for (int k = 0; k < 3; k++) {
            Twin v = new Twin(low[k], low[k], low[k]);
            due("slot(1, 0)", v.slot(1, 0), 0);
            due("slot(2, 0)", v.slot(2, 0), NONE);
            due("word(1, 51)", v.word(FLASH, 51, 0, false), 0);
            due("word(1, 52)", v.word(FLASH, 52, 0, false), NO_WORD);
            v = new Twin(high[k], high[k], high[k]);
            due("slot(63, 0)", v.slot(63, 0), 0);
            due("slot(64, 0)", v.slot(64, 0), NONE);
            due("slot(56, 4)", v.slot(56, 4), 1);
            due("word(1, 113)", v.word(FLASH, 113, 15, false), 0);
            due("word(1, 114)", v.word(FLASH, 114, 0, false), NO_WORD);
            waitingEpochs(new Twin(8, 8, low[k]), 1);
            waitingEpochs(new Twin(8, 8, high[k]), 8);
            waitingEpochs(new Twin(8, 8, 3), 3);
        }
    }

    private static void waitingEpochs(Twin v, int want) {
        for (int n = 0; n < 5; n++) {
            v.make(0, n + 1, false);
            due("sync()", v.sync(), 2 * n + 2);
        }
        due("count(4)", v.count(4), want);
        due("count(2)", v.count(2), 10 - want);
    }

    private static void makes() {
        part = "2, make";
        Twin v = big();
        due("make(0, 5, false)", v.make(0, 5, false), 1);
        due("make(0, 6, true)", v.make(0, 6, true), 2);
        due("make(2, 5, true)", v.make(2, 5, true), 3);
        due("make(0, MAX, false)", v.make(0, Integer.MAX_VALUE, false), 4);
        due("inode(1, 0)", v.inode(1, 0), 2);
        due("inode(2, 0)", v.inode(2, 0), 1);
        due("inode(1, 1)", v.inode(1, 1), 0);
        due("inode(3, 1)", v.inode(3, 1), 0);
        due("inode(2, 1)", v.inode(2, 1), 8);
        due("make(0, 5, true)", v.make(0, 5, true), THERE);
        due("make(0, 0, true)", v.make(0, 0, true), WRONG);
        due("make(0, -5, true)", v.make(0, -5, true), WRONG);
        due("make(1, 5, true)", v.make(1, 5, true), WRONG);
        due("make(5, 5, true)", v.make(5, 5, true), WRONG);
        due("make(-1, 5, true)", v.make(-1, 5, true), WRONG);
        due("make(24, 5, true)", v.make(24, 5, true), WRONG);
        due("make(MIN, 5, true)", v.make(Integer.MIN_VALUE, 5, true), WRONG);
        due("remove(0, 5)", v.remove(0, 5), 0);
        due("make(3, 9, false)", v.make(3, 9, false), 1);
        due("make(0, 7, false)", v.make(0, 7, false), 5);
        due("entry(0, 0, 0)", v.entry(0, 0, 0), 7);
        due("entry(0, 0, 1)", v.entry(0, 0, 1), 5);
    }

    private static void makeIsFull() {
        part = "2, make: FULL";
        Twin v = big();
        for (int i = 1; i < 24; i++) {
            due("make", v.make(0, 100 + i, i % 2 == 0), i);
        }
        due("count(10)", v.count(10), 24);
        due("inode(0, 1)", v.inode(0, 1), 24);
        due("inode(0, 3)", v.inode(0, 3), 3);
        due("make(0, 1, false)", v.make(0, 1, false), FULL);
        due("make(0, 101, false)", v.make(0, 101, false), THERE);
        due("make(2, 1, false)", v.make(2, 1, false), FULL);
        due("inode(2, 1)", v.inode(2, 1), 0);
        v = fullOfBlocks();
        for (int name = 5; name <= 8; name++) {
            due("make", v.make(0, name, true), name);
        }
        due("make(0, 9, false)", v.make(0, 9, false), FULL);
        due("inode(9, 0)", v.inode(9, 0), 0);
        due("make(5, 1, false)", v.make(5, 1, false), FULL);
        due("inode(5, 1)", v.inode(5, 1), 0);
        due("cut(1, 304)", v.cut(1, 304), 0);
        due("make(0, 9, false)", v.make(0, 9, false), 9);
        due("inode(0, 1)", v.inode(0, 1), 16);
    }

    private static void finds() {
        part = "3, find";
        Twin v = big();
        v.make(0, 5, true);
        v.make(1, 6, false);
        due("find(0, 5)", v.find(0, 5), 1);
        due("find(1, 6)", v.find(1, 6), 2);
        due("find(0, 6)", v.find(0, 6), NONE);
        due("find(0, 0)", v.find(0, 0), NONE);
        due("find(0, -1)", v.find(0, -1), NONE);
        due("find(2, 6)", v.find(2, 6), WRONG);
        due("find(3, 6)", v.find(3, 6), WRONG);
        due("find(-1, 6)", v.find(-1, 6), WRONG);
        due("find(24, 6)", v.find(24, 6), WRONG);
        due("find(MAX, 6)", v.find(Integer.MAX_VALUE, 6), WRONG);
    }

    private static void writes() {
        part = "4, write";
        Twin v = big();
        v.make(0, 5, false);
        v.make(0, 6, true);
        v.sync();
        due("write(1, 3, 7)", v.write(1, 3, 7), 4);
        counts(v, 7, 3);
        due("write(1, 1, 8)", v.write(1, 1, 8), 4);
        due("read(1, 3)", v.read(1, 3), 7);
        due("read(1, 1)", v.read(1, 1), 8);
        due("read(1, 0)", v.read(1, 0), 0);
        v.sync();
        due("write(1, 1, 8)", v.write(1, 1, 8), 4);
        counts(v, 7, 1);
        due("write(1, 319, -3)", v.write(1, 319, -3), 320);
        due("read(1, 319)", v.read(1, 319), -3);
        due("inode(1, 3)", v.inode(1, 3), 3);
        counts(v, 7, 5);
        v.sync();
        due("write(1, 100, MIN)", v.write(1, 100, Integer.MIN_VALUE), 320);
        counts(v, 7, 3);
        due("read(1, 100)", v.read(1, 100), Integer.MIN_VALUE);
        due("write(1, 320, 1)", v.write(1, 320, 1), WRONG);
        due("write(1, -1, 1)", v.write(1, -1, 1), WRONG);
        due("write(0, 0, 1)", v.write(0, 0, 1), WRONG);
        due("write(2, 0, 1)", v.write(2, 0, 1), WRONG);
        due("write(3, 0, 1)", v.write(3, 0, 1), WRONG);
        due("write(-1, 0, 1)", v.write(-1, 0, 1), WRONG);
        due("write(24, 0, 1)", v.write(24, 0, 1), WRONG);
        counts(v, 7, 3);
    }

    private static void writeIsFull() {
        part = "4, write: FULL";
        Twin v = fullOfBlocks();
        due("inode(3, 3)", v.inode(3, 3), 21);
        due("write(4, 0, 1)", v.write(4, 0, 1), FULL);
        due("write(3, 319, 1)", v.write(3, 319, 1), 320);
        due("cut(3, 304)", v.cut(3, 304), 0);
        v.sync();
        due("write(4, 64, 1)", v.write(4, 64, 1), FULL);
        counts(v, 7, 0);
        due("inode(4, 3)", v.inode(4, 3), 0);
        due("count(11)", v.count(11), 63);
        due("write(4, 63, 9)", v.write(4, 63, 9), 64);
        due("count(11)", v.count(11), 64);
        due("write(4, 0, 1)", v.write(4, 0, 1), FULL);
        due("inode(4, 1)", v.inode(4, 1), 64);
    }

    private static void reads() {
        part = "5, read";
        Twin v = onDisc();
        due("attach()", v.attach(), 0);
        due("read(1, 0)", v.read(1, 0), 5);
        slotIs(v, 24, 1, 43, 0, 0, 0);
        due("slot(25, 4)", v.slot(25, 4), 1);
        block(v, FLASH, 74);
        due("word(1, 74, 0, false)", v.word(FLASH, 74, 0, false), 5);
        due("count(13)", v.count(13), 1);
        due("read(1, 15)", v.read(1, 15), 0);
        due("read(1, 16)", v.read(1, 16), 0);
        due("read(1, 319)", v.read(1, 319), 0);
        due("count(13)", v.count(13), 1);
        due("read(1, 0)", v.read(1, 0), 5);
        slotIs(v, 24, 1, 43, 0, 1);
        due("count(13)", v.count(13), 1);
        due("read(1, 320)", v.read(1, 320), NO_SUCH);
        due("read(1, -1)", v.read(1, -1), NO_SUCH);
        due("read(0, 0)", v.read(0, 0), NO_SUCH);
        due("read(2, 0)", v.read(2, 0), NO_SUCH);
        due("read(-1, 0)", v.read(-1, 0), NO_SUCH);
        due("read(24, 0)", v.read(24, 0), NO_SUCH);
        v.write(1, 0, 6);
        due("read(1, 0), changed", v.read(1, 0), 6);
        v.sync();
        due("read(1, 0), kept", v.read(1, 0), 6);
        slotIs(v, 24, 1, 43, 0, 1);
    }

    /** From the size on 0 is answered, but the block of such an int is READ as any other, if it is there. */
    private static void readsFromSizeOn() {
        part = "5, read from the size on";
        Twin v = onDisc();
        v.attach();
        int writes = v.count(15);
        due("read(1, 16), no block", v.read(1, 16), 0);
        due("read(1, 319), no block", v.read(1, 319), 0);
        due("count(15)", v.count(15), writes);
        slotIs(v, 24, 0, NONE, 0, 0, 1);
        due("read(1, 1)", v.read(1, 1), 0);
        due("count(15)", v.count(15), writes + 1);
        slotIs(v, 24, 1, 43, 0, 0, 0);
        due("read(1, 15)", v.read(1, 15), 0);
        due("count(15)", v.count(15), writes + 1);
        slotIs(v, 24, 1, 43, 0, 1, 0);
        v = onDisc();
        v.attach();
        v.write(1, 0, 6);
        writes = v.count(15);
        // the slot is marked no more than it was by the write's own reading
        due("read(1, 15), changed", v.read(1, 15), 0);
        slotIs(v, 24, 1, 43, 0, 0, 0);
        due("count(15)", v.count(15), writes);
        v = onDisc();
        v.attach();
        v.limit(1, 0);
        due("read(1, 16), limited, no block", v.read(1, 16), 0);
        due("read(1, 15), limited", v.read(1, 15), ILLEGAL_STATE);
        due("count(0)", v.count(0), 0);
    }

    private static void readGoesDown() {
        part = "5, read goes down";
        Twin v = onDisc();
        v.attach();
        v.limit(1, 0);
        due("read(1, 0)", v.read(1, 0), ILLEGAL_STATE);
        due("count(0)", v.count(0), 0);
        due("read(1, 0)", v.read(1, 0), ILLEGAL_STATE);
        due("read(-1, 0)", v.read(-1, 0), ILLEGAL_STATE);
        // 6 and 2 of the commit, 5 and 2 of what came home, 1 of attach
        due("count(15)", v.count(15), 6 + 2 + 5 + 2 + 1);
        due("mount(true, 0, 0)", v.mount(true, 0, 0), 4);
        due("read(1, 0)", v.read(1, 0), 5);
    }

    private static void cuts() {
        part = "6, cut";
        Twin v = big();
        v.make(0, 5, false);
        for (int p : new int[] {0, 15, 16, 20, 31, 64, 80}) {
            v.write(1, p, 7);
        }
        due("inode(1, 3)", v.inode(1, 3), 5);
        v.sync();
        due("cut(1, 82)", v.cut(1, 82), WRONG);
        due("cut(1, -1)", v.cut(1, -1), WRONG);
        due("cut(0, 0)", v.cut(0, 0), WRONG);
        due("cut(2, 0)", v.cut(2, 0), WRONG);
        due("cut(-1, 0)", v.cut(-1, 0), WRONG);
        due("cut(24, 0)", v.cut(24, 0), WRONG);
        due("cut(1, 81)", v.cut(1, 81), 0);
        counts(v, 7, 0);
        due("cut(1, 80)", v.cut(1, 80), 0);
        // the inode, the indirect block and the map of used ones: the block that went is not changed
        counts(v, 7, 3);
        due("inode(1, 1)", v.inode(1, 1), 80);
        due("inode(1, 3)", v.inode(1, 3), 4);
        v.sync();
        due("cut(1, 64)", v.cut(1, 64), 0);
        // the indirect block goes, but its word was told anew ahead of that
        counts(v, 7, 3);
        due("inode(1, 3)", v.inode(1, 3), 2);
        v.sync();
        due("cut(1, 40)", v.cut(1, 40), 0);
        counts(v, 7, 1);
        due("cut(1, 20)", v.cut(1, 20), 0);
        counts(v, 7, 2);
        due("write(1, 31, 1)", v.write(1, 31, 1), 32);
        due("read(1, 16)", v.read(1, 16), 7);
        due("read(1, 20)", v.read(1, 20), 0);
        due("read(1, 31)", v.read(1, 31), 1);
        v.sync();
        due("cut(1, 0)", v.cut(1, 0), 0);
        counts(v, 7, 2);
        due("inode(1, 1)", v.inode(1, 1), 0);
        due("inode(1, 3)", v.inode(1, 3), 0);
        due("count(11)", v.count(11), 1);
        due("write(1, 0, 4)", v.write(1, 0, 4), 1);
        due("write(1, 15, 4)", v.write(1, 15, 4), 16);
        due("read(1, 1)", v.read(1, 1), 0);
    }

    private static void cutReadsItsBlock() {
        part = "6, cut reads its block";
        Twin v = onDisc();
        v.write(1, 15, 4);
        v.home();
        v.attach();
        int acts = v.count(15);
        due("cut(1, 16)", v.cut(1, 16), 0);
        due("count(15)", v.count(15), acts);
        v.limit(1, 0);
        due("cut(1, 7)", v.cut(1, 7), DOWN);
        due("mount(true, 0, 0)", v.mount(true, 0, 0), 4);
        due("inode(1, 1)", v.inode(1, 1), 16);
        acts = v.count(15);
        due("cut(1, 7)", v.cut(1, 7), 0);
        due("count(15)", v.count(15), acts + 1);
        slotIs(v, 24, 1, 43, 0, 0);
        counts(v, 7, 2);
        due("read(1, 0)", v.read(1, 0), 5);
        due("write(1, 15, 1)", v.write(1, 15, 1), 16);
        due("read(1, 7)", v.read(1, 7), 0);
    }

    private static void removes() {
        part = "7, remove";
        Twin v = big();
        v.make(0, 5, false);
        v.make(0, 6, true);
        v.make(2, 7, false);
        v.write(1, 100, 1);
        due("remove(1, 5)", v.remove(1, 5), WRONG);
        due("remove(9, 5)", v.remove(9, 5), WRONG);
        due("remove(-1, 5)", v.remove(-1, 5), WRONG);
        due("remove(24, 5)", v.remove(24, 5), WRONG);
        due("remove(0, 7)", v.remove(0, 7), NONE);
        due("remove(0, 0)", v.remove(0, 0), NONE);
        due("remove(0, -7)", v.remove(0, -7), NONE);
        due("remove(0, 6)", v.remove(0, 6), FULL);
        due("count(11)", v.count(11), 4);
        v.sync();
        due("remove(0, 5)", v.remove(0, 5), 0);
        // the map, the inode's block, the place's block; what was given back stays as it is
        counts(v, 7, 3);
        due("count(11)", v.count(11), 2);
        due("count(10)", v.count(10), 3);
        due("inode(1, 0)", v.inode(1, 0), 0);
        due("inode(1, 1)", v.inode(1, 1), 0);
        due("inode(1, 3)", v.inode(1, 3), 0);
        due("find(0, 5)", v.find(0, 5), NONE);
        due("entry(0, 0, 0)", v.entry(0, 0, 0), 0);
        due("entry(0, 0, 1)", v.entry(0, 0, 1), 0);
        due("remove(2, 7)", v.remove(2, 7), 0);
        due("inode(2, 1)", v.inode(2, 1), 8);
        due("inode(2, 2)", v.inode(2, 2), 0);
        due("remove(0, 6)", v.remove(0, 6), 0);
        due("count(11)", v.count(11), 1);
        due("count(10)", v.count(10), 1);
        due("inode(0, 1)", v.inode(0, 1), 8);
        // a changed block that is given back stays changed
        counts(v, 7, 5);
        v.sync();
        v.make(0, 1, false);
        v.write(1, 0, 1);
        v.sync();
        v.write(1, 0, 2);
        counts(v, 7, 1);
        v.remove(0, 1);
        counts(v, 7, 4);
        due("sync()", v.sync(), v.count(3) - 1);
    }

    private static void moves() {
        part = "8, move";
        Twin v = big();
        v.make(0, 1, true);
        v.make(1, 2, true);
        v.make(2, 3, true);
        v.make(0, 4, false);
        due("move(4, 1, 0, 9)", v.move(4, 1, 0, 9), WRONG);
        due("move(0, 1, 4, 9)", v.move(0, 1, 4, 9), WRONG);
        due("move(-1, 1, 0, 9)", v.move(-1, 1, 0, 9), WRONG);
        due("move(0, 1, 24, 9)", v.move(0, 1, 24, 9), WRONG);
        due("move(0, 1, 0, 0)", v.move(0, 1, 0, 0), WRONG);
        due("move(0, 9, 0, -1)", v.move(0, 9, 0, -1), WRONG);
        due("move(0, 9, 0, 8)", v.move(0, 9, 0, 8), NONE);
        due("move(0, 0, 0, 8)", v.move(0, 0, 0, 8), NONE);
        due("move(0, 9, 0, 1)", v.move(0, 9, 0, 1), NONE);
        due("move(0, 1, 0, 1)", v.move(0, 1, 0, 1), THERE);
        due("move(0, 1, 0, 4)", v.move(0, 1, 0, 4), THERE);
        due("move(0, 1, 2, 3)", v.move(0, 1, 2, 3), THERE);
        due("move(0, 1, 1, 9)", v.move(0, 1, 1, 9), WRONG);
        due("move(0, 1, 2, 9)", v.move(0, 1, 2, 9), WRONG);
        due("move(0, 1, 3, 9)", v.move(0, 1, 3, 9), WRONG);
        due("inode(3, 1)", v.inode(3, 1), 0);
        v.sync();
        due("move(0, 4, 3, 9)", v.move(0, 4, 3, 9), 0);
        // the new block, the map, the inode of 3, the old place's block
        counts(v, 7, 4);
        due("find(3, 9)", v.find(3, 9), 4);
        due("find(0, 4)", v.find(0, 4), NONE);
        due("inode(3, 1)", v.inode(3, 1), 8);
        due("move(2, 3, 0, 3)", v.move(2, 3, 0, 3), 0);
        due("entry(0, 1, 1)", v.entry(0, 1, 1), 3);
        due("move(0, 1, 3, 2)", v.move(0, 1, 3, 2), 0);
        due("find(3, 2)", v.find(3, 2), 1);
        due("move(0, 3, 2, 2)", v.move(0, 3, 2, 2), WRONG);
        v.sync();
        due("move(0, 3, 0, 4)", v.move(0, 3, 0, 4), 0);
        counts(v, 7, 1);
        due("entry(0, 0, 0)", v.entry(0, 0, 0), 4);
        due("entry(0, 1, 0)", v.entry(0, 1, 0), 0);
    }

    private static void moveIsFull() {
        part = "8, move: FULL";
        Twin v = fullOfBlocks();
        v.make(0, 5, true);
        due("move(0, 4, 5, 4)", v.move(0, 4, 5, 4), FULL);
        due("inode(5, 1)", v.inode(5, 1), 0);
        for (int name = 6; name <= 8; name++) {
            v.make(0, name, false);
        }
        // the new place is wanted first, though the old one would be free behind it
        due("move(0, 4, 0, 9)", v.move(0, 4, 0, 9), FULL);
        due("find(0, 4)", v.find(0, 4), 4);
        due("cut(2, 304)", v.cut(2, 304), 0);
        due("move(0, 4, 0, 9)", v.move(0, 4, 0, 9), 0);
        due("entry(0, 8, 0)", v.entry(0, 8, 0), 9);
        due("entry(0, 3, 0)", v.entry(0, 3, 0), 0);
    }

    private static void inodes() {
        part = "9, inode";
        Twin v = big();
        v.make(0, 5, false);
        v.make(0, 6, true);
        v.make(2, 6, true);
        v.write(1, 70, 1);
        int[][] want = {{1, 8, 2, 1}, {2, 71, 0, 2}, {1, 8, 1, 1}, {1, 0, 0, 0}, {0, 0, 0, 0}};
        for (int i = 0; i < want.length; i++) {
            for (int what = 0; what < 4; what++) {
                due("inode(" + i + ", " + what + ")", v.inode(i, what), want[i][what]);
            }
        }
        due("inode(23, 0)", v.inode(23, 0), 0);
        due("inode(24, 0)", v.inode(24, 0), NONE);
        due("inode(-1, 0)", v.inode(-1, 0), NONE);
        due("inode(0, 4)", v.inode(0, 4), NONE);
        due("inode(0, -1)", v.inode(0, -1), NONE);
        v.crash(0);
        due("inode(0, 0)", v.inode(0, 0), NONE);
    }

    private static void entries() {
        part = "10, entry";
        Twin v = big();
        v.make(0, 5, false);
        v.make(0, 6, true);
        due("entry(0, 1, 0)", v.entry(0, 1, 0), 6);
        due("entry(0, 1, 1)", v.entry(0, 1, 1), 2);
        due("entry(0, 7, 0)", v.entry(0, 7, 0), 0);
        due("entry(0, 7, 1)", v.entry(0, 7, 1), 0);
        due("entry(0, 8, 0)", v.entry(0, 8, 0), NONE);
        due("entry(0, -1, 0)", v.entry(0, -1, 0), NONE);
        due("entry(0, 0, 2)", v.entry(0, 0, 2), NONE);
        due("entry(0, 0, -1)", v.entry(0, 0, -1), NONE);
        due("entry(1, 0, 0)", v.entry(1, 0, 0), NONE);
        due("entry(2, 0, 0)", v.entry(2, 0, 0), NONE);
        due("entry(3, 0, 0)", v.entry(3, 0, 0), NONE);
        due("entry(-1, 0, 0)", v.entry(-1, 0, 0), NONE);
        due("entry(24, 0, 0)", v.entry(24, 0, 0), NONE);
        v.crash(-1);
        due("entry(0, 0, 0)", v.entry(0, 0, 0), NONE);
    }

    private static void syncs() {
        part = "11, sync";
        Twin v = big();
        due("sync()", v.sync(), 0);
        counts(v, 12, 0, 0, 0, 0, 0, 0);
        v.make(0, 2, false);
        due("sync()", v.sync(), 2);
        counts(v, 2, 0, 3, 2, 0, 2, 0, 3, 23);
        counts(v, 12, 0, 0, 0, 7, 0, 4);
        // word 0 of each is 1 or 2: it stands in word 15 instead
        block(v, FLASH, 58, 1, 1, 3, 29, 30, 42, 0, 0, 0, 0, 0, 0, 0, 0, 0, 1 + 4 + 2 * 16);
        block(v, FLASH, 66, 0);
        block(v, FLASH, 74, 0, 8, 42, 0, 0, 0, 0, 0, 2);
        block(v, FLASH, 82, 0, 1);
        block(v, FLASH, 90, 2, 1);
        block(v, FLASH, 1, 1, 1, 1, 4, 8, 1, 16, 2, 24, 3, 32, 4);
        block(v, FLASH, 2, 1, 2, 1, 1, 40, 5);
        due("sync()", v.sync(), 2);
        due("make(0, 3, true)", v.make(0, 3, true), 2);
        due("sync()", v.sync(), 4);
        // volume block 6, slot 48, is the next of the journal
        block(v, FLASH, 98, 1, 2, 2, 31, 42, 0, 0, 0, 0, 0, 0, 0, 0, 0, 0, 1 + 2 * 4);
        counts(v, 6, 3, 0, 4, 19);
        Twin d = onDisc();
        due("write(1, 0, 3)", d.write(1, 0, 3), 1);
        int writes = d.count(14);
        int flushes = d.count(16);
        due("sync(), without the flash", d.sync(), 4);
        due("count(14)", d.count(14), writes + 3);
        due("count(16)", d.count(16), flushes + 2);
        block(d, DISC, 20, 1, 2, 1, 43);
        block(d, DISC, 21, 3);
        block(d, DISC, 22, 2, 2);
    }

    private static void commitsAhead() {
        part = "11, commits ahead of a call";
        Twin v = big();
        v.make(0, 5, false);
        v.make(0, 6, true);
        for (int k = 0; k < 3; k++) {
            v.write(1, 16 * k, 9);
        }
        // 29, 30, 31, 42, 43, 44, 45
        counts(v, 6, 1, 7);
        due("write(1, 0, 1)", v.write(1, 0, 1), 33);
        counts(v, 6, 1, 7);
        v.write(1, 48, 1);
        counts(v, 6, 1, 8);
        due("find(0, 5)", v.find(0, 5), 1);
        due("read(1, 48)", v.read(1, 48), 1);
        counts(v, 6, 1, 8);
        due("write(7, 0, 1)", v.write(7, 0, 1), WRONG);
        counts(v, 6, 2, 0, 8);
        for (int call = 0; call < 4; call++) {
            Twin w = big();
            w.make(0, 5, false);
            w.write(1, 0, 1);
            w.write(1, 64, 9);
            for (int k = 1; k < 3; k++) {
                w.write(1, 16 * k, 9);
            }
            // 29, 30, 42, 43, the indirect one, 45 to 47
            counts(w, 6, 1, 8);
            due("answer", call == 0 ? w.make(9, 9, true) : call == 1 ? w.cut(9, 0) : call == 2 ? w.remove(9, 1) : w.move(9, 1, 0, 1), WRONG);
            counts(w, 6, 2, 0, 8);
        }
    }

    private static void journalIsBroughtHome() {
        part = "11, the journal is brought home";
        Twin v = big();
        v.make(0, 5, false);
        v.write(1, 0, 1);
        v.sync();
        counts(v, 8, 4, 22);
        for (int n = 0; n < 7; n++) {
            v.write(1, 0, 2 + n);
            due("sync()", v.sync(), 2 * n + 4);
        }
        counts(v, 6, 9, 0, 4, 1);
        due("write(1, 0, 100)", v.write(1, 0, 100), 1);
        due("sync()", v.sync(), 20);
        counts(v, 6, 10, 0, 1, 25);
        // what came home is what was committed, not what was changed behind that
        for (int n = 0; n < 20; n++) {
            v.land();
        }
        block(v, DISC, 19, 9);
        block(v, DISC, 62, 8);
        block(v, DISC, 48, 3);
        block(v, DISC, 20, 1, 9, 1, 43);
        block(v, DISC, 21, 100);
        due("crash(0)", v.crash(0), true);
        due("mount(true, 0, 0)", v.mount(true, 0, 0), 22);
        due("read(1, 0)", v.read(1, 0), 100);
        counts(v, 6, 10, 0, 0, 28);
    }

    private static void lands() {
        part = "12, land";
        Twin v = big();
        due("land()", v.land(), 0);
        v.make(0, 3, false);
        due("land()", v.land(), 0);
        v.sync();
        due("land()", v.land(), 1);
        counts(v, 2, 1, 3, 1, 0);
        counts(v, 12, 0, 0, 4 + 1 + 1 + 4 + 1, 7, 4, 4);
        block(v, DISC, 1, 0, 1, 0);
        block(v, DISC, 2, 1, 2, 3, 4);
        block(v, DISC, 3, 1, 1, 3, 29, 30, 42, 0, 0, 0, 0, 0, 0, 0, 0, 0, 1 + 4);
        block(v, DISC, 20, 1, 1, 3, 29, 30, 42, 0, 0, 0, 0, 0, 0, 0, 0, 0, 1 + 4);
        block(v, DISC, 6, 3, 1);
        block(v, DISC, 23, 3, 1);
        slotIs(v, 8, 1, 1, 0, 1);
        slotIs(v, 40, 2, 5, 2, 1);
        due("land()", v.land(), 2);
        block(v, DISC, 2, 5);
        block(v, DISC, 3, 2, 1);
        due("land()", v.land(), 0);
        due("count(16)", v.count(16), 8);
        Twin d = onDisc();
        d.write(1, 0, 1);
        d.sync();
        due("land(), without the flash", d.land(), 0);
    }

    private static void homes() {
        part = "13, home";
        Twin v = big();
        due("home()", v.home(), 0);
        counts(v, 14, 0, 0, 0, 0);
        v.make(0, 3, false);
        due("home()", v.home(), 3);
        counts(v, 3, 5, 4, 0, 2, 0, 0, 28);
        // 29 in slot 41 (behind the journal's block 5), 30 in slot 49, 42 in slot 17, 0 in slot 0
        slotIs(v, 41, 2, 29, 3, 1);
        slotIs(v, 17, 2, 42, 3, 1);
        slotIs(v, 0, 2, 0, 4, 1);
        due("word(1, 91, 0)", v.word(FLASH, 91, 0, true), 1);
        due("word(1, 50, 0)", v.word(FLASH, 50, 0, true), 2);
        due("home()", v.home(), 0);
        counts(v, 3, 5);
        v.write(1, 0, 1);
        v.sync();
        v.write(1, 16, 1);
        due("home()", v.home(), 4);
        Twin d = onDisc();
        d.write(1, 0, 8);
        due("home(), without the flash", d.home(), 1);
        block(d, DISC, 62, 8);
        block(d, DISC, 19, 3);
    }

    private static void limits() {
        part = "14, limit";
        Twin v = big();
        due("limit(0, 0)", v.limit(0, 0), false);
        due("limit(-1, 0)", v.limit(-1, 0), false);
        due("limit(1001, 0)", v.limit(1001, 0), false);
        due("limit(MAX, 0)", v.limit(Integer.MAX_VALUE, 0), false);
        due("limit(1000, 0)", v.limit(1000, 0), true);
        v.make(0, 3, false);
        due("sync()", v.sync(), 2);
        due("limit(1, 0)", v.limit(1, 0), true);
        due("limit(0, 0), the old one holds", v.limit(0, 0), false);
        due("sync()", v.sync(), 2);
        due("land()", v.land(), DOWN);
        due("limit(5, 0)", v.limit(5, 0), false);
        due("count(14)", v.count(14), 0);
        due("mount(true, 0, 0)", v.mount(true, 0, 0), 4);
        due("land()", v.land(), 1);
        due("limit(1, 0)", v.limit(1, 0), true);
        due("limit(12, 0), in place of any", v.limit(12, 0), true);
        due("land()", v.land(), 2);
        due("limit(1, 0)", v.limit(1, 0), true);
        due("crash(0)", v.crash(0), true);
        due("mount(true, 0, 0)", v.mount(true, 0, 0), 4);
        due("land(), the limit went with the power", v.land(), 3);
    }

    private static void limitsAtEachAct() {
        part = "14, a limit at each act";
        for (int n = 1; n <= 12; n++) {
            Twin v = big();
            v.make(0, 3, false);
            v.limit(n, n % 2 == 0 ? 0 : -1);
            // 4 writes, flush, record, flush, a write, flush, record, flush
            due("sync()", v.sync(), n < 12 ? DOWN : 2);
            if (n == 12) {
                continue;
            }
            int writes = n - 1 - (n > 5 ? 1 : 0) - (n > 7 ? 1 : 0) - (n > 9 ? 1 : 0);
            due("count(15)", v.count(15), writes);
            due("count(17)", v.count(17), n - 1 - writes);
            counts(v, 12, 0, 0);
            // with n = 7 the first record was pending and stays, with n = 11 the second one
            int closed = n <= 6 ? 0 : n <= 10 ? 1 : 2;
            due("mount(true, 0, 0)", v.mount(true, 0, 0), closed == 2 ? 4 : closed);
            due("find(0, 3)", v.find(0, 3), closed == 2 ? 1 : NONE);
            due("count(6)", v.count(6), closed == 2 ? 2 : 1);
        }
    }

    private static void crashes() {
        part = "15, crash";
        Twin v = onDisc();
        v.attach();
        v.read(1, 0);
        v.write(1, 0, 9);
        due("crash(0)", v.crash(0), true);
        due("crash(0)", v.crash(0), false);
        counts(v, 0, 0, 0, 4, NONE, NONE, NONE, NONE, NONE, NONE, NONE, NONE, NONE, 0, 0);
        block(v, FLASH, 74);
        due("mount(true, 0, 0)", v.mount(true, 0, 0), 4);
        due("read(1, 0), not committed", v.read(1, 0), 5);
        slotIs(v, 24, 1, 43, 0, 0);
        due("crash(1)", v.crash(1), true);
        block(v, FLASH, 74, 5);
        due("mount(true, 0, 0)", v.mount(true, 0, 0), 4);
        slotIs(v, 24, 0, NONE, 0, 0, 1);
    }

    private static void pendingWrites() {
        part = "15, pending writes";
        // one set of two slots: each read of another block is one more pending write
        Twin v = new Twin(1, 2, 1);
        v.make(0, 3, false);
        for (int k = 0; k < 4; k++) {
            v.write(1, 16 * k, 5 + k);
        }
        v.home();
        while (v.land() != 0) {
            due("count(12)", v.count(12), 0);
        }
        v.crash(0);
        v.mount(true, 0, 0);
        for (int n = 0; n < 64; n++) {
            due("read", v.read(1, 16 * (n % 4)), 5 + n % 4);
            due("count(13)", v.count(13), n + 1);
        }
        int before = v.word(FLASH, 51, 0, true);
        due("read", v.read(1, 0), 5);
        due("count(13)", v.count(13), 64);
        // the first one, 5 in slot 0, became stable; slot 1 is as it was
        block(v, FLASH, 50, 5);
        due("word(1, 51, 0, true)", v.word(FLASH, 51, 0, true), before);
        due("word(1, 50, 0, false)", v.word(FLASH, 50, 0, false), 5);
        // pending are now slot 1: 6, slot 0: 7, slot 1: 8, slot 0: 5, ..: of numbers 0 and 1 and 62 stay
        due("crash", v.crash(3L | 1L << 62), true);
        block(v, FLASH, 51, 8);
        block(v, FLASH, 50, 7);
        due("count(13)", v.count(13), 0);
        Twin d = onDisc();
        d.write(1, 0, 9);
        d.limit(3, 5);
        due("sync()", d.sync(), DOWN);
        // the header stays, not the block behind it: there is still 29, as it was committed first
        block(d, DISC, 20, 1, 2, 1, 43);
        block(d, DISC, 21, 3);
    }

    private static void loses() {
        part = "16, lose";
        Twin v = big();
        v.make(0, 3, false);
        v.sync();
        v.land();
        due("lose(0)", v.lose(0), true);
        due("count(0)", v.count(0), 0);
        for (int b = 0; b < 114; b++) {
            block(v, FLASH, b);
        }
        counts(v, 14, 11, 7, 4, 4);
        due("lose(0), while it is down", v.lose(0), true);
        due("mount(true, 0, 0)", v.mount(true, 0, 0), NONE);
        due("mount(false, 0, 0)", v.mount(false, 0, 0), 1);
        due("find(0, 3): the epoch of its (2, 1) is lost", v.find(0, 3), NONE);
        v.make(0, 3, false);
        v.write(1, 0, 6);
        v.limit(3, 2);
        due("lose(-1), the power goes", v.lose(-1), true);
        due("mount(false, 0, 0)", v.mount(false, 0, 0), 1);
        due("find(0, 3)", v.find(0, 3), NONE);
        Twin w = big();
        w.make(0, 3, false);
        w.sync();
        w.crash(0);
        due("lose(0)", w.lose(0), true);
        block(w, FLASH, 0);
        due("mount(true, 0, 0)", w.mount(true, 0, 0), NONE);
        due("count(0)", w.count(0), 0);
    }

    private static void mounts() {
        part = "17, mount";
        Twin v = big();
        due("mount(true, 0, 0)", v.mount(true, 0, 0), NONE);
        due("mount(false, 0, 0)", v.mount(false, 0, 0), NONE);
        v.make(0, 3, false);
        v.sync();
        v.write(1, 0, 7);
        v.sync();
        v.crash(0);
        // epochs 1 to 4, the halves change, two commits come home as 5 and 6
        due("mount(true, 0, 0)", v.mount(true, 0, 0), 6);
        block(v, FLASH, 25, 2, 1);
        block(v, FLASH, 26, 2, 1, 1, 4, 8, 1, 16, 2, 24, 3, 32, 4);
        block(v, FLASH, 27, 2, 2, 1, 1, 40, 5);
        block(v, FLASH, 28, 2, 3, 1, 4, 0, 8, 9, 9, 48, 6, 56, 7);
        counts(v, 0, 1, 1, 0, 7, 6, 0, 3, 0, 0, 28, 2, 2, 0, 0);
        due("read(1, 0)", v.read(1, 0), 7);
        slotIs(v, 8, 2, 1, 1, 0);
        v.crash(0);
        due("mount(false, 0, 0)", v.mount(false, 0, 0), 0);
        block(v, DISC, 0, 2);
        counts(v, 0, 1, 0, 0, NONE, NONE, NONE, 1, 0, 0, 28, 1, 0);
        due("find(0, 3)", v.find(0, 3), NONE);
        due("slot(0, 0)", v.slot(0, 0), NONE);
        v.crash(0);
        due("mount(true, 0, 0), another identity", v.mount(true, 0, 0), NONE);
        block(v, DISC, 0, 2);
        due("mount(false, -5, 0)", v.mount(false, -5, 0), 0);
        block(v, DISC, 0, 3);
    }

    private static void mountWithLimit() {
        part = "17, mount with a limit";
        Twin v = big();
        v.make(0, 3, false);
        v.sync();
        v.crash(0);
        // 2 records, flush, first block, flush, 3 blocks, flush, record, flush, block 0, flush, record, flush
        for (int n = 1; n <= 4; n++) {
            due("mount(true, n, 0)", v.mount(true, n, 0), DOWN);
            due("count(0)", v.count(0), 0);
            block(v, FLASH, 25);
        }
        due("mount(true, 5, 1)", v.mount(true, 5, 1), DOWN);
        block(v, FLASH, 25, 2, 1);
        due("mount(true, 15, 0)", v.mount(true, 15, 0), DOWN);
        block(v, FLASH, 0, 3, 1);
        due("mount(true, 17, 0), epoch 3 is there, 4 is not", v.mount(true, 17, 0), 5);
        due("find(0, 3)", v.find(0, 3), 1);
        v.crash(0);
        due("mount(true, 10, 0)", v.mount(true, 10, 0), 5);
        due("land(), the limit still holds", v.land(), DOWN);
        due("mount(true, MAX, 0)", v.mount(true, Integer.MAX_VALUE, 0), 5);
        due("land()", v.land(), 1);
        v.crash(0);
        due("mount(false, 1, -1)", v.mount(false, 1, -1), DOWN);
        block(v, DISC, 0, 1);
        due("mount(false, 2, 0)", v.mount(false, 2, 0), DOWN);
        block(v, DISC, 0, 1);
        due("mount(true, 0, 0)", v.mount(true, 0, 0), 5);
        v.crash(0);
        due("mount(false, 2, 1)", v.mount(false, 2, 1), DOWN);
        block(v, DISC, 0, 2);
        due("mount(true, 0, 0)", v.mount(true, 0, 0), NONE);
        due("mount(false, 3, 1)", v.mount(false, 3, 1), 1);
    }

    private static void mountFinishesLanding() {
        part = "17, mount finishes a landing";
        // 4 copies, the list, flush, HEAD, flush, 4 blocks, flush, HEAD, flush
        for (int n = 1; n <= 15; n++) {
            for (int keep = 0; keep < 2; keep++) {
                Twin v = big();
                v.make(0, 3, false);
                v.sync();
                v.limit(n, -keep);
                due("land()", v.land(), DOWN);
                boolean landed = n > 8 || n == 8 && keep == 1;
                boolean whole = n == 15 && keep == 1;
                due("count(2)", v.count(2), landed ? 1 : 0);
                due("word(0, 1, 0)", v.word(DISC, 1, 0, true), landed && !whole ? 1 : 0);
                due("word(0, 1, 2)", v.word(DISC, 1, 2, true), landed && !whole ? 4 : 0);
                int writes = v.count(14);
                int flushes = v.count(16);
                due("mount(true, 0, 0)", v.mount(true, 0, 0), 4);
                due("count(14)", v.count(14), writes + (landed && !whole ? 5 : 0));
                due("count(16)", v.count(16), flushes + (landed && !whole ? 2 : 0));
                due("count(2)", v.count(2), landed ? 1 : 0);
                due("word(0, 20, 2)", v.word(DISC, 20, 2, true), landed ? 3 : 0);
                due("word(0, 1, 0)", v.word(DISC, 1, 0, true), 0);
                due("find(0, 3)", v.find(0, 3), 1);
                due("count(4)", v.count(4), landed ? 3 : 4);
            }
        }
    }

    private static void halvesChange() {
        part = "PART 2, the halves change";
        Twin v = new Twin(8, 8, 2);
        v.make(0, 3, false);
        v.write(1, 0, 1);
        v.sync();
        for (int n = 0; n < 7; n++) {
            v.write(1, 0, 2);
            v.sync();
        }
        due("home()", v.home(), 4);
        for (int n = 0; n < 3; n++) {
            v.write(1, 0, 3);
            due("sync()", v.sync(), 20 + 2 * n);
        }
        // 24 records in 24 places
        block(v, FLASH, 25);
        due("count(2)", v.count(2), 22);
        due("word(1, 24, 1)", v.word(FLASH, 24, 1, true), 24);
        v.write(1, 0, 4);
        due("sync()", v.sync(), 26);
        // at the close of 25 only 24 had not landed
        block(v, FLASH, 25, 2, 1);
        due("word(1, 26, 0)", v.word(FLASH, 26, 0, true), 2);
        due("word(1, 26, 1)", v.word(FLASH, 26, 1, true), 24);
        due("word(1, 26, 2)", v.word(FLASH, 26, 2, true), 1);
        due("word(1, 27, 1)", v.word(FLASH, 27, 1, true), 25);
        due("word(1, 28, 1)", v.word(FLASH, 28, 1, true), 26);
        block(v, FLASH, 29);
        v.crash(0);
        due("mount(true, 0, 0)", v.mount(true, 0, 0), 28);
        block(v, FLASH, 0, 3, 1);
        due("read(1, 0)", v.read(1, 0), 4);
    }

    private static void longEpochs() {
        part = "PART 2, an epoch of 16 slots";
        Twin v = big();
        v.make(0, 3, false);
        v.sync();
        for (int k = 0; k < 12; k++) {
            v.write(1, 16 * k, 7);
            if (k == 3 || k == 7) {
                v.sync();
            }
        }
        // 29, 30, 42, 43 to 46, the indirect one, 48 to 51
        counts(v, 7, 7, 12, 28 - 5 - 8 - 9);
        int open = v.count(3);
        due("home(), the journal was too short for 7", v.home(), 7);
        // 12 at home, block 0; the journal's 8, then (2, ..); 7 at home, block 0
        due("count(3)", v.count(3), open + 6);
        sixteen();
    }

    /** 17 blocks come home at once: an epoch is closed by the 17th, with three records. */
    private static void sixteen() {
        Twin v = big();
        for (int n = 1; n <= 10; n++) {
            v.make(0, n, false);
        }
        v.home();
        for (int n = 1; n <= 10; n++) {
            v.write(n, 0, 7);
        }
        v.sync();
        // the map, inodes' blocks 30 to 35, ten of the files
        counts(v, 7, 0, 17);
        int open = v.count(3);
        due("home()", v.home(), 17);
        due("count(3)", v.count(3), open + 3);
        int place = 1;
        while (place < 45 && v.word(FLASH, place, 1, true) != open) {
            place++;
        }
        int[] last = {0, 0, 1, 1, 1};
        int[] many = {6, 6, 4, 1, 1};
        for (int r = 0; r < 5; r++) {
            due("epoch", v.word(FLASH, place + r, 1, true), open + Math.max(0, r - 2));
            due("last", v.word(FLASH, place + r, 2, true), last[r]);
            due("how many", v.word(FLASH, place + r, 3, true), many[r]);
        }
        v.crash(0);
        due("mount(true, 0, 0)", v.mount(true, 0, 0), open + 2);
        due("read(10, 0)", v.read(10, 0), 7);
    }

    private static void attaches() {
        part = "18, attach";
        Twin v = big();
        due("attach()", v.attach(), WRONG);
        v = onDisc();
        v.write(1, 0, 6);
        v.sync();
        v.write(1, 0, 7);
        int[] had = {v.count(14), v.count(15), v.count(16), v.count(17)};
        due("attach()", v.attach(), 0);
        counts(v, 14, had[0] + 1, had[1] + 1, had[2] + 1, had[3] + 1);
        block(v, FLASH, 0, 1, 3);
        for (int b = 1; b < 114; b++) {
            block(v, FLASH, b);
        }
        block(v, DISC, 0, 3);
        counts(v, 0, 1, 1, 4, 5, 0, 0, 3, 1, 1);
        for (int i = 0; i < 64; i++) {
            slotIs(v, i, 0, NONE, 0, 0, i % 8 == 0 ? 1 : 0);
        }
        due("attach()", v.attach(), WRONG);
        due("read(1, 0), changed", v.read(1, 0), 7);
        due("sync()", v.sync(), 6);
        block(v, FLASH, 1, 1, 5, 1, 2, 32, 4, 40, 5);
        v.crash(0);
        due("mount(true, 0, 0)", v.mount(true, 0, 0), 8);
        due("read(1, 0)", v.read(1, 0), 7);
        v.crash(0);
        due("attach()", v.attach(), DOWN);
    }

    private static void attachCutOff() {
        part = "18, attach is cut off";
        for (int n = 1; n <= 4; n++) {
            Twin v = onDisc();
            v.limit(n, 0);
            due("attach()", v.attach(), DOWN);
            due("count(0)", v.count(0), 0);
            block(v, FLASH, 0, n > 2 ? new int[] {1, 3} : new int[0]);
            block(v, FLASH, 1);
            block(v, DISC, 0, 2);
            due("mount(true, 0, 0)", v.mount(true, 0, 0), NONE);
            due("mount(false, 0, 0)", v.mount(false, 0, 0), 4);
            due("read(1, 0)", v.read(1, 0), 5);
            due("attach()", v.attach(), 0);
            block(v, FLASH, 0, 1, 4);
        }
    }

    private static void slots() {
        part = "19, slot";
        Twin v = new Twin(2, 3, 2);
        due("slot(5, 0)", v.slot(5, 0), 0);
        due("slot(6, 0)", v.slot(6, 0), NONE);
        due("slot(-1, 0)", v.slot(-1, 0), NONE);
        due("slot(0, 5)", v.slot(0, 5), NONE);
        due("slot(0, -1)", v.slot(0, -1), NONE);
        v.make(0, 3, false);
        v.sync();
        // blocks 2 and 4 in set 0, 1 and 3 in set 1, of epoch 1; then 5 in set 1
        slotIs(v, 0, 2, 2, 1, 1, 0);
        slotIs(v, 1, 2, 4, 1, 1, 0);
        slotIs(v, 2, 0, NONE, 0, 0, 1);
        slotIs(v, 3, 2, 1, 1, 1, 1);
        slotIs(v, 4, 2, 3, 1, 1, 0);
        slotIs(v, 5, 2, 5, 2, 1, 0);
        v.land();
        slotIs(v, 0, 1, 2, 0, 1, 0);
        slotIs(v, 5, 2, 5, 2, 1, 0);
        v.crash(0);
        due("slot(0, 0)", v.slot(0, 0), NONE);
        v.mount(false, 0, 0);
        due("slot(0, 0)", v.slot(0, 0), NONE);
    }

    private static void handsAndMarks() {
        part = "PART 2, hands and marks";
        // one set of 3 slots, a file with blocks 43 to 46 on the disc
        Twin v = new Twin(1, 3, 1);
        v.make(0, 3, false);
        for (int k = 0; k < 4; k++) {
            v.write(1, 16 * k, 5 + k);
        }
        v.home();
        while (v.land() != 0) {
            due("count(0)", v.count(0), 1);
        }
        v.crash(0);
        v.mount(true, 0, 0);
        for (int k = 0; k < 3; k++) {
            v.read(1, 16 * k);
            slotIs(v, k, 1, 43 + k, 0, 0);
        }
        due("slot(0, 4)", v.slot(0, 4), 1);
        v.read(1, 0);
        v.read(1, 32);
        v.read(1, 48);
        // slot 0 lost its mark, slot 1 had none
        slotIs(v, 0, 1, 43, 0, 0, 0);
        slotIs(v, 1, 1, 46, 0, 0, 0);
        slotIs(v, 2, 1, 45, 0, 1, 1);
        v.read(1, 0);
        v.read(1, 48);
        v.read(1, 16);
        // all had marks: the second time round slot 2 is found
        slotIs(v, 0, 1, 43, 0, 0, 1);
        slotIs(v, 1, 1, 46, 0, 0, 0);
        slotIs(v, 2, 1, 44, 0, 0, 0);
        int writes = v.count(15);
        v.write(1, 0, 9);
        due("sync()", v.sync(), v.count(3) - 1);
        due("count(15) rose", v.count(15) > writes, true);
        allDirty();
    }

    /** When all slots of a set are dirty a read finds none: nothing is written. */
    private static void allDirty() {
        Twin v = new Twin(1, 2, 8);
        v.make(0, 3, false);
        v.write(1, 0, 5);
        v.home();
        while (v.land() != 0) {
            due("count(0)", v.count(0), 1);
        }
        v.make(0, 4, true);
        v.sync();
        // the journal's block 3, of the epoch that the flush closed, and (2, 2), of the next one
        due("slot(0, 0)", v.slot(0, 0), 2);
        due("slot(1, 0)", v.slot(1, 0), 2);
        int writes = v.count(15);
        int hand = v.slot(0, 4);
        due("read(1, 0)", v.read(1, 0), 5);
        due("count(15)", v.count(15), writes);
        due("slot(0, 4)", v.slot(0, 4), hand);
    }

    private static void newestSlots() {
        part = "PART 2, a block in two slots";
        Twin v = big();
        v.make(0, 3, false);
        v.write(1, 0, 5);
        v.home();
        v.write(1, 0, 6);
        v.home();
        // block 43 (set 3): slot 24 has the journal's block 3, then the two of it
        slotIs(v, 25, 2, 43, 3, 1);
        slotIs(v, 26, 2, 3, 6, 1);
        slotIs(v, 27, 2, 43, 7, 1);
        due("read(1, 0)", v.read(1, 0), 6);
        for (int e = 1; e <= 3; e++) {
            due("land()", v.land(), e);
        }
        // 43 of epoch 3 is on the disc; its slot is free, as epoch 7 has it too
        block(v, DISC, 62, 5);
        slotIs(v, 25, 0, NONE, 0, 0);
        slotIs(v, 27, 2, 43, 7, 1);
        due("read(1, 0)", v.read(1, 0), 6);
        for (int e = 4; e <= 8; e++) {
            due("land()", v.land(), e);
        }
        block(v, DISC, 62, 6);
        slotIs(v, 27, 1, 43, 0, 1);
        due("slot(28, 4)", v.slot(28, 4), 1);
        v.write(1, 0, 7);
        v.home();
        // the clean slot is taken, the hand stays for it
        slotIs(v, 27, 2, 43, 11, 1);
    }

    private static void wordsOfDevices() {
        part = "20, word";
        Twin v = new Twin(1, 2, 1);
        due("word(0, 124, 15, true)", v.word(DISC, 124, 15, true), 0);
        due("word(0, 125, 0, true)", v.word(DISC, 125, 0, true), NO_WORD);
        due("word(0, -1, 0, true)", v.word(DISC, -1, 0, true), NO_WORD);
        due("word(0, 0, 16, true)", v.word(DISC, 0, 16, true), NO_WORD);
        due("word(0, 0, -1, false)", v.word(DISC, 0, -1, false), NO_WORD);
        due("word(2, 0, 0, true)", v.word(2, 0, 0, true), NO_WORD);
        due("word(-1, 0, 0, true)", v.word(-1, 0, 0, true), NO_WORD);
        due("word(1, MAX, 0, true)", v.word(FLASH, Integer.MAX_VALUE, 0, true), NO_WORD);
        due("word(1, 0, MIN, true)", v.word(FLASH, 0, Integer.MIN_VALUE, true), NO_WORD);
        Twin w = onDisc();
        w.attach();
        w.read(1, 0);
        due("word(1, 74, 0, false)", w.word(FLASH, 74, 0, false), 5);
        due("word(1, 74, 0, true)", w.word(FLASH, 74, 0, true), 0);
        w.crash(0);
        due("word(1, 74, 0, false)", w.word(FLASH, 74, 0, false), 0);
        due("word(0, 62, 0, false)", w.word(DISC, 62, 0, false), 5);
    }

    private static void countsOfAll() {
        part = "21, count";
        Twin v = big();
        due("count(-1)", v.count(-1), NONE);
        due("count(18)", v.count(18), NONE);
        due("count(MAX)", v.count(Integer.MAX_VALUE), NONE);
        v.make(0, 3, false);
        v.make(0, 4, true);
        v.write(1, 64, 1);
        counts(v, 0, 1, 1, 0, 1, 0, 0, 1, 6, 0, 28, 3, 3, 0, 0, 0, 0, 0, 0);
        v.sync();
        // 7 blocks of the journal in epoch 1 (two records), one in epoch 2
        counts(v, 0, 1, 1, 0, 3, 2, 0, 2, 0, 6, 20, 3, 3, 0, 0, 0, 11, 0, 4);
        v.land();
        counts(v, 0, 1, 1, 1, 3, 1, 0, 2, 0, 6, 20, 3, 3, 0, 0, 17, 11, 4, 4);
        // one set of two slots: the open epoch is closed as often as it is full
        Twin w = new Twin(1, 2, 1);
        w.make(0, 3, false);
        w.limit(2, 0);
        due("sync()", w.sync(), DOWN);
        counts(w, 0, 0, 0, 0, NONE, NONE, NONE, NONE, NONE, NONE, NONE, NONE, NONE, 0, 0, 0, 1, 0, 0);
    }

    private static void downAnswers() {
        part = "while it is down";
        Twin v = big();
        v.make(0, 3, true);
        v.crash(0);
        due("make", v.make(0, 0, false), DOWN);
        due("find", v.find(9, 0), DOWN);
        due("write", v.write(9, -1, 0), DOWN);
        due("read", v.read(9, -1), ILLEGAL_STATE);
        due("cut", v.cut(9, -1), DOWN);
        due("remove", v.remove(9, 0), DOWN);
        due("move", v.move(9, 0, 9, 0), DOWN);
        due("inode", v.inode(0, 0), NONE);
        due("entry", v.entry(0, 0, 0), NONE);
        due("sync", v.sync(), DOWN);
        due("land", v.land(), DOWN);
        due("home", v.home(), DOWN);
        due("limit", v.limit(1, 0), false);
        due("crash", v.crash(0), false);
        due("attach", v.attach(), DOWN);
        due("slot", v.slot(0, 0), NONE);
        due("mount", v.mount(true, 0, 0), 0);
        due("find", v.find(0, 3), NONE);
    }
}
