/** PART 3 of the document and promises 2 to 11 and 13: each sentence that names a bound has a test of its own. */
public final class TreeEdgesTest extends Check {
    public static void main(String[] args) {
        inodesOnTheDisc();
        namesOnTheDisc();
        mapOfUsedBlocks();
        mapOfBlocksGivenBack();
        lowestBlockFirst();
        takenAnewIsZero();
        placesOfAFile();
        sizeOfAFile();
        lowestInodeAndPlace();
        directoryKeepsItsBlocks();
        directoriesWithinDirectories();
        movesBelowItself();
        lastBlockForWrite();
        lastBlockForMake();
        lastBlockForMove();
        placeThatIsGivenUp();
        lastInode();
        cutBounds();
        cutIsGone();
        cutOfAnEmptyFile();
        cutOfBlocksThatAreNotThere();
        indirectBlock();
        numbersInTheIndirectBlock();
        readBounds();
        entryBounds();
        inodeBounds();
        readWhenNeitherChangedNorKept();
        changedThoughTheSame();
        givenBackAsItWas();
        sizeToldAnew();
        moreThanSeven();
        callsThatCommitNothing();
        commitOfOneAndOfEleven();
        firstWordsOfBlocks();
        journalJustLongEnough();
        journalTooShort();
        homeBounds();
        keptAndChangedAgain();
        removeBounds();
        end("the tree's edges hold");
    }

    /** All is brought home and has landed: the disc alone has the tree. */
    private static void settle(Twin v) {
        v.home();
        landAll(v);
        counts(v, 7, 0, 0);
        due("count(4)", v.count(4), 0);
    }

    /** Settled, and mounted anew with the flash: no slot has anything. */
    private static void settleAfresh(Twin v) {
        settle(v);
        v.crash(0);
        v.mount(true, 0, 0);
        due("count(0)", v.count(0), 1);
    }

    private static void inodesOnTheDisc() {
        part = "2, PART 3: inodes are 0 to 23, two a block, of 8 words";
        Twin v = big();
        for (int i = 1; i < 24; i++) {
            due("make", v.make(0, 100 + i, i == 23), i);
        }
        due("make", v.make(0, 124, false), FULL);
        due("write(22, 0, 9)", v.write(22, 0, 9), 1);
        settle(v);
        block(v, DISC, 49, 1, 24, 42, 43, 44, 0, 0, 0, 2);
        for (int b = 31; b < 41; b++) {
            block(v, DISC, 19 + b, 2, 0, 0, 0, 0, 0, 0, 0, 2);
        }
        block(v, DISC, 60, 2, 1, 45, 0, 0, 0, 0, 0, 1);
        due("the root", v.inode(0, 0), 1);
        due("the last one", v.inode(23, 0), 1);
        due("behind it", v.inode(24, 0), NONE);
    }

    private static void namesOnTheDisc() {
        part = "2, PART 3: place p is words 2 * (p % 8) and the next one of block p / 8";
        Twin v = big();
        for (int i = 1; i <= 9; i++) {
            v.make(0, 100 + i, false);
        }
        settle(v);
        block(v, DISC, 61, 101, 1, 102, 2, 103, 3, 104, 4, 105, 5, 106, 6, 107, 7, 108, 8);
        block(v, DISC, 62, 109, 9);
        for (int p = 0; p < 16; p++) {
            due("entry(0, " + p + ", 0)", v.entry(0, p, 0), p < 9 ? 101 + p : 0);
            due("entry(0, " + p + ", 1)", v.entry(0, p, 1), p < 9 ? 1 + p : 0);
        }
    }

    private static void mapOfUsedBlocks() {
        part = "PART 3: bit k of word w is 1 if block 42 + 32 * w + k is used, 42 to 105";
        Twin v = big();
        for (int f = 1; f <= 3; f++) {
            v.make(0, f, false);
        }
        int used = 1;
        for (int n = 0; n < 60; n++) {
            v.write(1 + n / 20, 16 * (n % 20), 1000 + n);
            used += n % 20 == 4 ? 2 : 1;
            due("count(11)", v.count(11), used);
            if (used == 31 || used == 32 || used == 33 || used >= 63) {
                settle(v);
                block(v, DISC, 48, used < 32 ? (1 << used) - 1 : -1, used <= 32 ? 0 : used == 64 ? -1 : (1 << used - 32) - 1);
            }
        }
        // the last block of the volume is the disc's last one
        block(v, DISC, 124, 1059);
        due("write(2, 319, 1)", v.write(2, 319, 1), 320);
        due("cut(3, 304)", v.cut(3, 304), 0);
        due("count(11)", v.count(11), 63);
        settle(v);
        block(v, DISC, 48, -1, MAX);
    }

    private static void mapOfBlocksGivenBack() {
        part = "6, PART 3: bits 31 of word 0 and 0 of word 1 are of blocks 73 and 74";
        Twin v = big();
        v.make(0, 1, false);
        v.make(0, 2, false);
        for (int n = 0; n < 31; n++) {
            v.write(1 + n / 20, 16 * (n % 20), 1);
        }
        settle(v);
        // 42, 43 to 63 of file 1, 64 to 75 of file 2: blocks 8, 9, 10 are 73, 74, 75
        block(v, DISC, 48, -1, 3);
        v.cut(2, 160);
        settle(v);
        block(v, DISC, 48, -1, 1);
        v.cut(2, 144);
        settle(v);
        block(v, DISC, 48, -1, 0);
        v.cut(2, 128);
        settle(v);
        block(v, DISC, 48, MAX, 0);
        due("count(11)", v.count(11), 31);
        v.write(2, 159, 1);
        settle(v);
        block(v, DISC, 48, -1, 0);
        v.write(2, 128, 1);
        settle(v);
        block(v, DISC, 48, -1, 1);
    }

    private static void lowestBlockFirst() {
        part = "PART 3: the lowest block that is not used first, the indirect one ahead of what is in it";
        Twin v = big();
        v.make(0, 3, false);
        v.make(0, 4, false);
        v.write(1, 64, 7);
        v.write(1, 0, 8);
        v.write(2, 0, 9);
        settle(v);
        // 42: the root's, 43: indirect, 44: block 4, 45: block 0, 46: of file 2
        block(v, DISC, 49, 1, 8, 42, 0, 0, 0, 0, 0, 2, 65, 45, 0, 0, 0, 43);
        block(v, DISC, 50, 2, 1, 46);
        block(v, DISC, 62, 44);
        block(v, DISC, 63, 7);
        block(v, DISC, 64, 8);
        block(v, DISC, 65, 9);
        v.cut(1, 64);
        v.write(2, 16, 10);
        v.write(2, 32, 11);
        v.write(2, 48, 12);
        settle(v);
        block(v, DISC, 50, 2, 49, 46, 43, 44, 47);
        block(v, DISC, 48, 0x3f);
    }

    private static void takenAnewIsZero() {
        part = "PART 3: one that is taken anew is 0 in all its words";
        Twin v = big();
        v.make(0, 3, false);
        for (int w = 0; w < 16; w++) {
            v.write(1, w, 70 + w);
        }
        settle(v);
        block(v, DISC, 62, 70, 71, 72, 73, 74, 75, 76, 77, 78, 79, 80, 81, 82, 83, 84, 85);
        v.remove(0, 3);
        v.make(0, 4, false);
        v.write(1, 3, 9);
        for (int w = 0; w < 16; w++) {
            due("read(1, " + w + ")", v.read(1, w), w == 3 ? 9 : 0);
        }
        settle(v);
        block(v, DISC, 62, 0, 0, 0, 9);
        v.remove(0, 4);
        v.make(0, 5, true);
        v.make(1, 6, false);
        due("entry(1, 1, 0), once a file's block", v.entry(1, 1, 0), 0);
        settle(v);
        block(v, DISC, 62, 6, 2);
    }

    private static void placesOfAFile() {
        part = "4, PART 3: place p, 0 to 319, is word p % 16 of block p / 16";
        int[] places = {0, 15, 16, 31, 32, 47, 48, 63, 64, 79, 80, 303, 304, 319};
        int[] blocks = {1, 1, 2, 2, 3, 3, 4, 4, 6, 6, 7, 8, 9, 9};
        Twin v = big();
        v.make(0, 3, false);
        for (int k = 0; k < places.length; k++) {
            due("write", v.write(1, places[k], 1000 + places[k]), places[k] + 1);
            due("inode(1, 3)", v.inode(1, 3), blocks[k]);
        }
        due("write(1, 320, 1)", v.write(1, 320, 1), WRONG);
        due("write(1, -1, 1)", v.write(1, -1, 1), WRONG);
        settle(v);
        block(v, DISC, 49, 1, 8, 42, 0, 0, 0, 0, 0, 2, 320, 43, 44, 45, 46, 47);
        block(v, DISC, 66, 48, 49, 0, 0, 0, 0, 0, 0, 0, 0, 0, 0, 0, 0, 50, 51);
        for (int p = 0; p < 320; p++) {
            boolean written = false;
            for (int place : places) {
                written |= p == place;
            }
            due("read(1, " + p + ")", v.read(1, p), written ? 1000 + p : 0);
        }
    }

    private static void sizeOfAFile() {
        part = "4: its size is at least that place and one";
        Twin v = big();
        v.make(0, 3, false);
        due("inode(1, 1)", v.inode(1, 1), 0);
        due("write(1, 0, 0)", v.write(1, 0, 0), 1);
        due("write(1, 0, 1)", v.write(1, 0, 1), 1);
        due("write(1, 1, 1)", v.write(1, 1, 1), 2);
        due("write(1, 318, 1)", v.write(1, 318, 1), 319);
        due("write(1, 319, 1)", v.write(1, 319, 1), 320);
        due("write(1, 0, 1)", v.write(1, 0, 1), 320);
        due("inode(1, 1)", v.inode(1, 1), 320);
        due("write(1, 5, MIN)", v.write(1, 5, MIN), 320);
        due("read(1, 5)", v.read(1, 5), MIN);
        due("write(1, 5, MAX)", v.write(1, 5, MAX), 320);
        due("read(1, 5)", v.read(1, 5), MAX);
    }

    private static void lowestInodeAndPlace() {
        part = "2, PART 3: the lowest inode that is free, the lowest place without a name";
        Twin v = big();
        for (int i = 1; i <= 8; i++) {
            due("make", v.make(0, 10 + i, false), i);
        }
        due("inode(0, 1), 8 names", v.inode(0, 1), 8);
        due("make", v.make(0, 19, false), 9);
        due("inode(0, 1), 9 names", v.inode(0, 1), 16);
        v.remove(0, 17);
        v.remove(0, 12);
        v.remove(0, 15);
        due("make", v.make(0, 1, true), 2);
        due("entry(0, 1, 0)", v.entry(0, 1, 0), 1);
        due("make", v.make(0, MAX, true), 5);
        due("entry(0, 4, 0)", v.entry(0, 4, 0), MAX);
        due("find(0, MAX)", v.find(0, MAX), 5);
        due("make", v.make(2, 1, true), 7);
        due("entry(2, 0, 1)", v.entry(2, 0, 1), 7);
        due("make", v.make(0, 2, true), 10);
        due("entry(0, 6, 0)", v.entry(0, 6, 0), 2);
        due("make", v.make(0, 3, true), 11);
        due("entry(0, 9, 0)", v.entry(0, 9, 0), 3);
    }

    private static void directoryKeepsItsBlocks() {
        part = "7, PART 3: directories keep their blocks till they are removed";
        Twin v = big();
        v.make(0, 3, true);
        due("inode(1, 1), no block", v.inode(1, 1), 0);
        due("inode(1, 3), no block", v.inode(1, 3), 0);
        for (int n = 1; n <= 9; n++) {
            v.make(1, n, false);
        }
        due("inode(1, 1)", v.inode(1, 1), 16);
        for (int n = 1; n <= 8; n++) {
            due("remove", v.remove(1, n), 0);
        }
        due("remove(0, 3), one name", v.remove(0, 3), FULL);
        due("remove(1, 9)", v.remove(1, 9), 0);
        due("inode(1, 1)", v.inode(1, 1), 16);
        due("inode(1, 2)", v.inode(1, 2), 0);
        due("inode(1, 3)", v.inode(1, 3), 2);
        due("count(11)", v.count(11), 3);
        due("make(1, 20, true)", v.make(1, 20, true), 2);
        due("entry(1, 0, 0)", v.entry(1, 0, 0), 20);
        v.remove(1, 20);
        due("remove(0, 3), no name", v.remove(0, 3), 0);
        due("count(11)", v.count(11), 1);
        due("inode(0, 1)", v.inode(0, 1), 8);
        due("inode(0, 2)", v.inode(0, 2), 0);
    }

    /** Directory i is in directory i - 1, with the name 1. */
    private static Twin chain() {
        Twin v = big();
        for (int i = 1; i < 24; i++) {
            due("make", v.make(i - 1, 1, true), i);
        }
        return v;
    }

    private static void directoriesWithinDirectories() {
        part = "2, a directory below 23 others";
        Twin v = chain();
        due("count(11)", v.count(11), 23);
        due("make(23, 1, true)", v.make(23, 1, true), FULL);
        due("find(22, 1)", v.find(22, 1), 23);
        due("remove(0, 1)", v.remove(0, 1), FULL);
        for (int i = 23; i > 0; i--) {
            due("remove", v.remove(i - 1, 1), 0);
        }
        due("count(10)", v.count(10), 1);
        due("count(11)", v.count(11), 1);
    }

    private static void movesBelowItself() {
        part = "8: a directory would come to be in itself, or below itself";
        Twin v = chain();
        for (int i = 1; i < 24; i++) {
            due("move(0, 1, " + i + ", 2)", v.move(0, 1, i, 2), WRONG);
            due("inode(" + i + ", 2)", v.inode(i, 2), i < 23 ? 1 : 0);
        }
        due("move(21, 1, 23, 2)", v.move(21, 1, 23, 2), WRONG);
        due("move(22, 1, 23, 2)", v.move(22, 1, 23, 2), WRONG);
        due("move(22, 1, 22, 2), where it is", v.move(22, 1, 22, 2), 0);
        due("move(22, 2, 0, 2), upwards", v.move(22, 2, 0, 2), 0);
        due("move(0, 1, 23, 1), beside it now", v.move(0, 1, 23, 1), 0);
        due("move(0, 2, 22, 2)", v.move(0, 2, 22, 2), WRONG);
        due("find(23, 1)", v.find(23, 1), 1);
        due("find(0, 1)", v.find(0, 1), NONE);
        due("inode(0, 2)", v.inode(0, 2), 1);
        // a file is never within itself
        v.remove(21, 1);
        due("make(0, 5, false)", v.make(0, 5, false), 22);
        due("move(0, 5, 21, 5)", v.move(0, 5, 21, 5), 0);
    }

    private static void lastBlockForWrite() {
        part = "4: FULL, no block";
        Twin full = fullOfBlocks();
        due("write(4, 0, 1), none is left", full.write(4, 0, 1), FULL);
        due("write(3, 319, 2), it is there", full.write(3, 319, 2), 320);
        Twin v = full.copy();
        v.cut(3, 304);
        due("count(11)", v.count(11), 63);
        due("write(4, 64, 1), one is left, two are wanted", v.write(4, 64, 1), FULL);
        due("write(4, 319, 1), one is left, two are wanted", v.write(4, 319, 1), FULL);
        due("inode(4, 3)", v.inode(4, 3), 0);
        due("write(4, 63, 1), one is left, one is wanted", v.write(4, 63, 1), 64);
        due("count(11)", v.count(11), 64);
        v = full.copy();
        v.cut(3, 288);
        due("count(11)", v.count(11), 62);
        due("write(4, 64, 1), two are left, two are wanted", v.write(4, 64, 1), 65);
        due("count(11)", v.count(11), 64);
        due("write(4, 80, 1), none is left", v.write(4, 80, 1), FULL);
        due("write(4, 79, 1), it is there", v.write(4, 79, 1), 80);
        v.cut(2, 304);
        due("write(4, 80, 1), one is left, the indirect one is there", v.write(4, 80, 1), 81);
        due("count(11)", v.count(11), 64);
    }

    private static void lastBlockForMake() {
        part = "2: FULL, no block for the name";
        Twin v = fullOfBlocks();
        for (int name = 5; name <= 8; name++) {
            due("make, none is left, none is wanted", v.make(0, name, true), name);
        }
        due("make, none is left", v.make(0, 9, true), FULL);
        due("make in an empty directory", v.make(5, 9, true), FULL);
        due("count(10)", v.count(10), 9);
        v.cut(1, 304);
        due("make, one is left", v.make(5, 9, true), 9);
        due("count(11)", v.count(11), 64);
        due("make, none is left", v.make(0, 9, true), FULL);
        due("make, none is wanted", v.make(5, 10, true), 10);
    }

    private static void lastBlockForMove() {
        part = "8: FULL, no block; the new place is taken first";
        Twin v = fullOfBlocks();
        for (int name = 5; name <= 8; name++) {
            v.make(0, name, true);
        }
        due("move within the full directory", v.move(0, 4, 0, 9), FULL);
        due("move to an empty directory", v.move(0, 4, 5, 9), FULL);
        due("find(0, 4)", v.find(0, 4), 4);
        v.cut(1, 304);
        due("one is left", v.move(0, 4, 0, 9), 0);
        due("count(11)", v.count(11), 64);
        due("entry(0, 8, 0)", v.entry(0, 8, 0), 9);
        due("entry(0, 3, 0)", v.entry(0, 3, 0), 0);
        due("inode(0, 1)", v.inode(0, 1), 16);
        due("none is wanted", v.move(0, 9, 0, 4), 0);
        due("entry(0, 3, 0), the lowest place", v.entry(0, 3, 0), 4);
        due("entry(0, 8, 0)", v.entry(0, 8, 0), 0);
    }

    private static void placeThatIsGivenUp() {
        part = "7, 8, PART 3: a place without a name is 0, 0";
        Twin v = big();
        v.make(0, 3, false);
        v.make(0, 4, true);
        v.make(0, 5, false);
        v.move(0, 3, 2, 3);
        due("entry(0, 0, 0)", v.entry(0, 0, 0), 0);
        due("entry(0, 0, 1)", v.entry(0, 0, 1), 0);
        v.move(0, 5, 0, 6);
        due("entry(0, 0, 0)", v.entry(0, 0, 0), 6);
        due("entry(0, 0, 1)", v.entry(0, 0, 1), 3);
        due("entry(0, 2, 0)", v.entry(0, 2, 0), 0);
        due("entry(0, 2, 1)", v.entry(0, 2, 1), 0);
        v.remove(2, 3);
        due("entry(2, 0, 0)", v.entry(2, 0, 0), 0);
        due("entry(2, 0, 1)", v.entry(2, 0, 1), 0);
        settle(v);
        block(v, DISC, 61, 6, 3, 4, 2);
        block(v, DISC, 62);
    }

    private static void lastInode() {
        part = "2: FULL, no inode";
        Twin v = big();
        for (int i = 1; i <= 22; i++) {
            v.make(0, i, false);
        }
        due("count(10)", v.count(10), 23);
        due("make, one is left", v.make(0, 23, true), 23);
        due("make, none is left", v.make(0, 24, false), FULL);
        due("make, the name is there", v.make(0, 23, false), THERE);
        due("make in the last one", v.make(23, 1, false), FULL);
        v.remove(0, 7);
        due("make, one is left", v.make(23, 1, false), 7);
        due("make, none is left", v.make(0, 7, false), FULL);
    }

    /** File 1: blocks 0, 1, 3 (43, 44, 45), indirect (46), 4, 5, 19 (47, 48, 49), all its ints there 1000 and their place. */
    private static Twin fileToCut() {
        Twin v = big();
        v.make(0, 3, false);
        for (int k : new int[] {0, 1, 3, 4, 5, 19}) {
            for (int w = 0; w < 16; w++) {
                v.write(1, 16 * k + w, 1000 + 16 * k + w);
            }
        }
        settleAfresh(v);
        due("inode(1, 1)", v.inode(1, 1), 320);
        due("inode(1, 3)", v.inode(1, 3), 7);
        return v;
    }

    private static void cutBounds() {
        part = "6: n at most its size; a block that n ends within is to be changed";
        Twin file = fileToCut();
        for (int n : new int[] {MIN, -1, 321, MAX}) {
            due("cut(1, " + n + ")", file.copy().cut(1, n), WRONG);
        }
        // n, changed blocks, blocks left, how many were READ
        int[][] rows = {
            {320, 0, 7, 0}, {319, 2, 7, 1}, {305, 2, 7, 1}, {304, 3, 6, 0}, {303, 3, 6, 0}, {97, 3, 6, 0},
            {96, 3, 6, 0}, {95, 4, 6, 1}, {81, 4, 6, 1}, {80, 3, 5, 0}, {79, 4, 5, 1}, {65, 4, 5, 1}, {64, 3, 3, 0},
            {63, 4, 3, 1}, {49, 4, 3, 1}, {48, 3, 2, 0}, {47, 3, 2, 0}, {33, 3, 2, 0}, {32, 3, 2, 0}, {31, 4, 2, 1},
            {17, 4, 2, 1}, {16, 3, 1, 0}, {15, 4, 1, 1}, {1, 4, 1, 1}, {0, 3, 0, 0},
        };
        for (int[] row : rows) {
            Twin v = file.copy();
            int writes = v.count(15);
            due("cut(1, " + row[0] + ")", v.cut(1, row[0]), 0);
            due("cut(1, " + row[0] + "): changed", v.count(7), row[1]);
            due("cut(1, " + row[0] + "): blocks", v.inode(1, 3), row[2]);
            due("cut(1, " + row[0] + "): used", v.count(11), 1 + row[2]);
            due("cut(1, " + row[0] + "): READ", v.count(15) - writes, row[3]);
            due("cut(1, " + row[0] + "): size", v.inode(1, 1), row[0]);
            due("cut again", v.cut(1, row[0] + 1), WRONG);
            due("cut again", v.cut(1, row[0]), 0);
            due("changed", v.count(7), row[1]);
        }
    }

    private static void cutIsGone() {
        part = "6: what is cut off is gone";
        Twin file = fileToCut();
        for (int n : new int[] {319, 304, 96, 95, 80, 65, 64, 63, 17, 16, 15, 1, 0}) {
            Twin v = file.copy();
            v.cut(1, n);
            v.write(1, 319, 9);
            v.sync();
            for (int p = 0; p < 320 && v.left() > 0; p++) {
                int k = p / 16;
                boolean there = k < 2 || k > 2 && k < 6 || k == 19;
                due("cut(1, " + n + "), read(1, " + p + ")", v.read(1, p), p == 319 ? 9 : there && p < n ? 1000 + p : 0);
            }
        }
    }

    private static void cutOfAnEmptyFile() {
        part = "6: a file without ints";
        Twin v = big();
        v.make(0, 3, false);
        v.sync();
        due("cut(1, 0)", v.cut(1, 0), 0);
        due("count(7)", v.count(7), 0);
        due("cut(1, 1)", v.cut(1, 1), WRONG);
        due("cut(1, -1)", v.cut(1, -1), WRONG);
        v.write(1, 0, 7);
        due("cut(1, 2)", v.cut(1, 2), WRONG);
        due("cut(1, 1)", v.cut(1, 1), 0);
        due("cut(1, 0)", v.cut(1, 0), 0);
        due("cut(1, 1)", v.cut(1, 1), WRONG);
        due("inode(1, 3)", v.inode(1, 3), 0);
    }

    private static void cutOfBlocksThatAreNotThere() {
        part = "6, PART 3: of what is cut off each block's number becomes 0, where there is one";
        Twin v = big();
        v.make(0, 3, false);
        v.write(1, 0, 7);
        v.write(1, 64, 7);
        v.write(1, 319, 7);
        v.cut(1, 304);
        v.sync();
        // no block from 5 on is there: the size alone is told
        for (int n : new int[] {303, 288, 100, 96, 81, 80}) {
            due("cut(1, " + n + ")", v.cut(1, n), 0);
            due("changed", v.count(7), 1);
        }
        v.sync();
        v.cut(1, 79);
        due("changed, a block that n ends within", v.count(7), 2);
    }

    private static void indirectBlock() {
        part = "6, PART 3: the indirect block is given back when none is in it";
        Twin v = big();
        v.make(0, 3, false);
        v.write(1, 64, 1);
        v.write(1, 319, 1);
        due("inode(1, 3)", v.inode(1, 3), 3);
        v.cut(1, 304);
        due("inode(1, 3), one is in it", v.inode(1, 3), 2);
        v.cut(1, 65);
        due("inode(1, 3), one is in it", v.inode(1, 3), 2);
        v.cut(1, 64);
        due("inode(1, 3), none is in it", v.inode(1, 3), 0);
        due("count(11)", v.count(11), 1);
        settle(v);
        block(v, DISC, 49, 1, 8, 42, 0, 0, 0, 0, 0, 2, 64);
        v.write(1, 63, 1);
        due("inode(1, 3), a block without it", v.inode(1, 3), 1);
        v.write(1, 319, 1);
        due("inode(1, 3), both anew", v.inode(1, 3), 3);
        settle(v);
        block(v, DISC, 49, 1, 8, 42, 0, 0, 0, 0, 0, 2, 320, 0, 0, 0, 43, 44);
        block(v, DISC, 63, 0, 0, 0, 0, 0, 0, 0, 0, 0, 0, 0, 0, 0, 0, 0, 45);
        v.remove(0, 3);
        due("count(11)", v.count(11), 1);
    }

    /** File 1 with blocks 4 and 5 (44, 45), the indirect one is 43; all is at home. */
    private static Twin twoInTheIndirectBlock() {
        Twin v = big();
        v.make(0, 3, false);
        v.write(1, 64, 70);
        v.write(1, 80, 71);
        settle(v);
        block(v, DISC, 49, 1, 8, 42, 0, 0, 0, 0, 0, 2, 81, 0, 0, 0, 0, 43);
        block(v, DISC, 62, 44, 45);
        return v;
    }

    /** These blocks are committed, no others; the journal is on the disc then. */
    private static void committed(String call, Twin v, int... blocks) {
        due(call + ": changed", v.count(7), blocks.length);
        v.sync();
        landAll(v);
        due(call + ": n", v.word(DISC, 20, 2, true), blocks.length);
        for (int j = 0; j < 12; j++) {
            due(call + ": block " + j, v.word(DISC, 20, 3 + j, true), j < blocks.length ? blocks[j] : 0);
        }
    }

    private static void numbersInTheIndirectBlock() {
        part = "6, PART 3: of what is cut off each block's number becomes 0, in the inode or the indirect block";
        Twin two = twoInTheIndirectBlock();
        Twin v = two.copy();
        v.cut(1, 80);
        committed("one is cut off", v, 29, 30, 43);
        block(v, DISC, 23, 44);
        v = two.copy();
        v.cut(1, 70);
        committed("one is cut off, n ends within the other one", v, 29, 30, 43, 44);
        block(v, DISC, 23, 44);
        block(v, DISC, 24, 70);
        v = two.copy();
        v.cut(1, 64);
        // told to be 0, so it was changed when it was given back
        committed("both are cut off", v, 29, 30, 43);
        // words 0 of the map and of the root's inode are 1
        due("word 15", v.word(DISC, 20, 15, true), 1 + 4);
        block(v, DISC, 21);
        block(v, DISC, 22, 0, 8, 42, 0, 0, 0, 0, 0, 2, 64);
        block(v, DISC, 23);
        v = two.copy();
        v.cut(1, 81);
        due("nothing is cut off: changed", v.count(7), 0);
        v = two.copy();
        v.cut(1, 64);
        v.write(1, 17, 72);
        // the lowest one is taken anew, as a file's block
        committed("both are cut off, the indirect one is taken again", v, 29, 30, 43);
        block(v, DISC, 23, 0, 72);
        v = two.copy();
        v.remove(0, 3);
        committed("what is removed is given back as it is", v, 29, 30, 42);
        v = two.copy();
        v.write(1, 96, 73);
        v.remove(0, 3);
        committed("the indirect one was changed ahead of that", v, 29, 30, 42, 43, 46);
        block(v, DISC, 24, 44, 45, 46);
        block(v, DISC, 25, 73);
    }

    private static void readBounds() {
        part = "5: a place is 0 to 319, 0 from its size on";
        Twin v = big();
        v.make(0, 3, false);
        v.make(0, 4, true);
        due("read(1, 0), of no ints", v.read(1, 0), 0);
        due("read(1, 319), of no ints", v.read(1, 319), 0);
        v.write(1, 16, 7);
        due("read(1, 16)", v.read(1, 16), 7);
        due("read(1, 15), no block", v.read(1, 15), 0);
        due("read(1, 17)", v.read(1, 17), 0);
        due("read(1, 319)", v.read(1, 319), 0);
        for (int place : new int[] {MIN, -1, 320, 321, MAX}) {
            due("read(1, " + place + ")", v.read(1, place), NO_SUCH);
        }
        for (int i : new int[] {MIN, -1, 0, 2, 3, 23, 24, MAX}) {
            due("read(" + i + ", 0)", v.read(i, 0), NO_SUCH);
        }
        v.remove(0, 3);
        due("read(1, 0), a free inode", v.read(1, 0), NO_SUCH);
    }

    private static void entryBounds() {
        part = "10: NONE for no such place";
        Twin v = big();
        due("entry(0, 0, 0), no block", v.entry(0, 0, 0), NONE);
        for (int n = 1; n <= 17; n++) {
            v.make(0, n, false);
            int places = (n + 7) / 8 * 8;
            due("the last name", v.entry(0, n - 1, 0), n);
            due("the last place", v.entry(0, places - 1, 1), n % 8 == 0 ? n : 0);
            due("behind it", v.entry(0, places, 0), NONE);
            due("behind it", v.entry(0, places, 1), NONE);
        }
        due("entry(0, -1, 0)", v.entry(0, -1, 0), NONE);
        due("entry(0, 0, 2)", v.entry(0, 0, 2), NONE);
        due("entry(0, 0, -1)", v.entry(0, 0, -1), NONE);
        due("entry(1, 0, 0)", v.entry(1, 0, 0), NONE);
    }

    private static void inodeBounds() {
        part = "9: how many names and blocks";
        Twin v = big();
        int[] first = {1, 0, 0, 0};
        for (int what = -1; what <= 4; what++) {
            due("inode(0, " + what + ")", v.inode(0, what), what < 0 || what > 3 ? NONE : first[what]);
            due("inode(23, " + what + ")", v.inode(23, what), what < 0 || what > 3 ? NONE : 0);
            due("inode(24, " + what + ")", v.inode(24, what), NONE);
            due("inode(-1, " + what + ")", v.inode(-1, what), NONE);
        }
        v.make(0, 3, false);
        for (int k = 0; k < 20; k++) {
            v.write(1, 16 * k, 1);
        }
        due("inode(1, 3), all", v.inode(1, 3), 21);
        due("inode(1, 2), a file", v.inode(1, 2), 0);
        due("inode(1, 1)", v.inode(1, 1), 305);
        due("inode(0, 2)", v.inode(0, 2), 1);
        due("inode(0, 3)", v.inode(0, 3), 1);
        v.remove(0, 3);
        for (int what = 0; what < 4; what++) {
            due("a free one", v.inode(1, what), 0);
        }
    }

    private static void readWhenNeitherChangedNorKept() {
        part = "5, PART 3: a file's block is READ when it is neither changed nor kept";
        Twin v = fileToCut();
        int writes = v.count(15);
        v.read(1, 0);
        due("READ", v.count(15), writes + 1);
        slotIs(v, 24, 1, 43, 0, 0);
        v.write(1, 16, 7);
        due("READ to be changed", v.count(15), writes + 2);
        slotIs(v, 32, 1, 44, 0, 0);
        v.read(1, 16);
        v.write(1, 17, 7);
        due("changed: not READ", v.count(15), writes + 2);
        slotIs(v, 32, 1, 44, 0, 0);
        v.sync();
        writes = v.count(15);
        v.read(1, 16);
        v.write(1, 16, 8);
        v.sync();
        slotIs(v, 32, 1, 44, 0, 0);
        v.home();
        due("at home: slot(32, 0)", v.slot(32, 0), 2);
        landAll(v);
        slotIs(v, 32, 1, 44, 0, 1);
        writes = v.count(15);
        due("read(1, 16)", v.read(1, 16), 8);
        due("READ from its slot", v.count(15), writes);
        // a new block is not READ, nor is one that is asked in vain
        v.write(1, 32, 1);
        v.write(1, 320, 1);
        v.read(1, 100);
        due("count(15)", v.count(15), writes);
    }

    private static void changedThoughTheSame() {
        part = "4, PART 3: changed is what was told anew, though the same";
        Twin v = big();
        v.make(0, 3, false);
        v.write(1, 0, 7);
        v.sync();
        due("count(7)", v.count(7), 0);
        v.write(1, 0, 7);
        due("count(7), the same int", v.count(7), 1);
        v.write(1, 0, 7);
        due("count(7), again", v.count(7), 1);
        int sequence = v.count(6);
        v.sync();
        due("count(6)", v.count(6), sequence + 1);
        v.cut(1, 1);
        due("count(7), cut to its size", v.count(7), 0);
        v.write(1, 5, 0);
        v.sync();
        v.cut(1, 3);
        due("count(7), zeros told to be 0", v.count(7), 2);
    }

    private static void givenBackAsItWas() {
        part = "7, PART 3: one that is given back is changed just if it was";
        Twin v = big();
        v.make(0, 3, false);
        v.write(1, 0, 7);
        v.write(1, 64, 8);
        v.sync();
        Twin w = v.copy();
        w.remove(0, 3);
        // the map, the inode's block, the name's block
        due("count(7), none was", w.count(7), 3);
        w.home();
        landAll(w);
        block(w, DISC, 48, 1);
        block(w, DISC, 62, 7);
        block(w, DISC, 63, 45);
        block(w, DISC, 64, 8);
        w = v.copy();
        w.write(1, 0, 9);
        w.remove(0, 3);
        due("count(7), one was", w.count(7), 4);
        w.home();
        landAll(w);
        block(w, DISC, 62, 9);
        w = v.copy();
        w.write(1, 65, 9);
        w.cut(1, 0);
        // block 45 was changed; the indirect block's word was told to be 0
        due("count(7), cut", w.count(7), 4);
        w.home();
        landAll(w);
        block(w, DISC, 63);
        block(w, DISC, 64, 8, 9);
        w = v.copy();
        w.cut(1, 0);
        w.make(0, 4, false);
        w.write(2, 0, 5);
        // 29, 30, 31, 42, the indirect one, and 43, which is taken
        due("count(7), taken again", w.count(7), 6);
    }

    private static void sizeToldAnew() {
        part = "4, PART 3: a size is told anew when it becomes another one";
        Twin v = big();
        v.make(0, 3, false);
        v.write(1, 4, 7);
        v.sync();
        v.write(1, 4, 8);
        due("count(7), the last place", v.count(7), 1);
        v.sync();
        v.write(1, 3, 8);
        due("count(7), a place ahead of it", v.count(7), 1);
        v.sync();
        v.write(1, 5, 8);
        due("count(7), a place behind it", v.count(7), 2);
        v.sync();
        v.make(0, 4, false);
        // inode 2's block and the root's block, not the root's inode
        due("count(7), a name in a block that is there", v.count(7), 2);
    }

    /** So many blocks are changed, of a file with 12 blocks that are all on the disc. */
    private static Twin changed(int n) {
        Twin v = big();
        v.make(0, 3, false);
        v.make(0, 4, true);
        for (int k = 0; k < 12; k++) {
            v.write(1, 16 * k, 5);
        }
        settle(v);
        for (int k = 0; k < n; k++) {
            v.write(1, 16 * k, 6);
        }
        due("count(7)", v.count(7), n);
        return v;
    }

    private static void changeOrTry(Twin v, int call) {
        switch (call) {
            case 0: due("make", v.make(2, 5, true), 3); break;
            case 1: due("write", v.write(1, 0, 7), 177); break;
            case 2: due("cut", v.cut(1, 176), 0); break;
            case 3: due("remove", v.remove(0, 4), 0); break;
            case 4: due("move", v.move(0, 4, 0, 5), 0); break;
            case 5: due("make", v.make(0, 3, true), THERE); break;
            case 6: due("write", v.write(1, 320, 7), WRONG); break;
            case 7: due("cut", v.cut(1, 177), 0); break;
            case 8: due("remove", v.remove(0, 9), NONE); break;
            case 9: due("move", v.move(0, 3, 0, 0), WRONG); break;
            case 10: due("make", v.make(MIN, MIN, true), WRONG); break;
            case 11: due("write", v.write(MAX, MAX, 7), WRONG); break;
            case 12: due("cut", v.cut(-1, -1), WRONG); break;
            case 13: due("remove", v.remove(-1, -1), WRONG); break;
            default: due("move", v.move(-1, -1, -1, -1), WRONG);
        }
    }

    private static void moreThanSeven() {
        part = "2, 4, 6, 7, 8: if more than 7 are changed, they are committed ahead, whatever the answer";
        Twin seven = changed(7);
        Twin eight = changed(8);
        // make: the map, 2 and 3 in one block of inodes, a new block; cut: the map, the inode, the indirect block
        int[] told = {3, 1, 3, 2, 1};
        for (int call = 0; call < 15; call++) {
            Twin v = seven.copy();
            int sequence = v.count(6);
            changeOrTry(v, call);
            due("7, call " + call + ": sequence", v.count(6), sequence);
            due("7, call " + call + ": kept", v.count(8), 0);
            v = eight.copy();
            sequence = v.count(6);
            changeOrTry(v, call);
            due("8, call " + call + ": sequence", v.count(6), sequence + 1);
            due("8, call " + call + ": kept", v.count(8), 8);
            due("8, call " + call + ": changed", v.count(7), call < 5 ? told[call] : 0);
        }
    }

    private static void callsThatCommitNothing() {
        part = "PART 3: other calls commit nothing ahead";
        Twin v = changed(8);
        int sequence = v.count(6);
        v.find(0, 3);
        v.read(1, 0);
        v.read(1, 176);
        v.read(1, 400);
        v.inode(0, 0);
        v.entry(0, 0, 0);
        v.land();
        v.limit(1000, 0);
        v.attach();
        v.mount(true, 0, 0);
        v.slot(0, 0);
        v.word(0, 0, 0, true);
        counts(v, 6, sequence, 8, 0, 28);
    }

    /** Root with names 11 to 18, files 1 to 8; files 1 to 7 have a block, 43 to 49; all is on the disc. */
    private static Twin eightFiles() {
        Twin v = big();
        for (int f = 1; f <= 8; f++) {
            v.make(0, 10 + f, false);
        }
        for (int f = 1; f <= 7; f++) {
            v.write(f, 0, 5);
            v.write(f, 1, 1);
        }
        settle(v);
        return v;
    }

    private static void commitOfOneAndOfEleven() {
        part = "11, PART 3: to commit n changed blocks, n above 0";
        Twin v = eightFiles();
        int acts = acts(v);
        int sequence = v.count(6);
        v.sync();
        due("n is 0: acts", acts(v), acts);
        due("n is 0: sequence", v.count(6), sequence);
        v.write(1, 0, 4);
        v.sync();
        counts(v, 6, sequence + 1, 0, 1, 25);
        v = eightFiles();
        // 7 changed, and 4 more by one call: the map, the root's inode, inode 9's block, a new block
        for (int f = 1; f <= 7; f++) {
            v.write(f, 0, f == 1 ? 1 : f == 7 ? 2 : 3);
        }
        due("make(0, 2, false)", v.make(0, 2, false), 9);
        due("count(7)", v.count(7), 11);
        sequence = v.count(6);
        v.sync();
        counts(v, 6, sequence + 1, 0, 11, 15);
        landAll(v);
        int coded = 4 + 2 * 16 + 64 + 2 * (1 << 18) + 2 * (1 << 20);
        block(v, DISC, 20, 1, sequence, 11, 29, 30, 34, 43, 44, 45, 46, 47, 48, 49, 50, 0, coded);
        block(v, DISC, 21, 0x1ff);
        block(v, DISC, 22, 0, 16, 42, 50, 0, 0, 0, 0, 2, 2, 43);
        block(v, DISC, 23, 0, 0, 0, 0, 0, 0, 0, 0, 2);
        block(v, DISC, 24, 0, 1);
        block(v, DISC, 25, 3, 1);
        block(v, DISC, 30, 0, 1);
        block(v, DISC, 31, 0, 9);
        block(v, DISC, 32, 2, sequence);
        v.crash(0);
        v.mount(true, 0, 0);
        due("find(0, 2)", v.find(0, 2), 9);
        due("read(1, 0)", v.read(1, 0), 1);
        due("read(7, 0)", v.read(7, 0), 2);
        due("inode(8, 0)", v.inode(8, 0), 2);
    }

    private static void firstWordsOfBlocks() {
        part = "11, PART 3: word 15 tells a word 0 that is 1 or 2, no other";
        int[] first = {1, 2, 3, 0, -1, MIN, 6};
        Twin v = eightFiles();
        for (int f = 1; f <= 7; f++) {
            v.write(f, 0, first[f - 1]);
        }
        int sequence = v.count(6);
        v.sync();
        landAll(v);
        block(v, DISC, 20, 1, sequence, 7, 43, 44, 45, 46, 47, 48, 49, 0, 0, 0, 0, 0, 1 + 2 * 4);
        for (int f = 1; f <= 7; f++) {
            block(v, DISC, 20 + f, f <= 2 ? 0 : first[f - 1], 1);
        }
        v.crash(0);
        v.mount(true, 0, 0);
        for (int f = 1; f <= 7; f++) {
            due("read(" + f + ", 0)", v.read(f, 0), first[f - 1]);
            due("read(" + f + ", 1)", v.read(f, 1), 1);
        }
    }

    /** Commits of 7, then seven times 3 blocks of the journal: none of its 28 is left. */
    private static Twin fullJournal(int last) {
        Twin v = big();
        v.make(0, 3, false);
        v.make(0, 4, false);
        v.write(1, 0, 70);
        v.sync();
        due("count(9)", v.count(9), 21);
        for (int n = 1; n <= last; n++) {
            v.write(1, 0, 70 + n);
            v.sync();
            counts(v, 6, 2 + n, 0, 5, 21 - 3 * n);
        }
        return v;
    }

    private static void journalJustLongEnough() {
        part = "11, PART 3: as many as n + 2 blocks of the journal are left";
        Twin v = fullJournal(7);
        // the next one brings them home
        v.write(1, 0, 78);
        v.sync();
        counts(v, 6, 10, 0, 1, 25);
        landAll(v);
        block(v, DISC, 19, 9);
        block(v, DISC, 62, 77);
        block(v, DISC, 20, 1, 9, 1, 43);
        block(v, DISC, 21, 78);
        block(v, DISC, 22, 2, 9);
        block(v, DISC, 47, 2, 8);
    }

    private static void journalTooShort() {
        part = "11, PART 3: fewer than n + 2 blocks of the journal are left";
        Twin v = fullJournal(6);
        due("count(9)", v.count(9), 3);
        v.write(1, 0, 80);
        Twin w = v.copy();
        w.sync();
        due("n is 1: none came home", w.count(8), 5);
        due("count(9)", w.count(9), 0);
        // the size is told anew, so n is 2
        v.write(1, 1, 80);
        due("count(7)", v.count(7), 2);
        v.sync();
        due("n is 2: five came home", v.count(8), 2);
        due("count(9)", v.count(9), 24);
    }

    private static void homeBounds() {
        part = "13, PART 3: nothing is done if none is kept";
        Twin v = big();
        due("home()", v.home(), 0);
        due("acts", acts(v), 0);
        v.make(0, 3, false);
        due("home()", v.home(), 3);
        int acts = acts(v);
        due("home(), again", v.home(), 0);
        due("acts", acts(v), acts);
        counts(v, 6, 2, 0, 0, 28);
        v = fullJournal(7);
        v.write(1, 0, 99);
        // the sync brings five home, one is kept behind that
        due("home(), the journal is full", v.home(), 1);
        v = fullJournal(7);
        due("home()", v.home(), 5);
        due("count(9)", v.count(9), 28);
    }

    private static void keptAndChangedAgain() {
        part = "13, PART 3: what was committed is kept till it is at home, not what was told behind that";
        Twin v = fullJournal(7);
        v.write(1, 0, 500);
        due("count(7)", v.count(7), 1);
        v.limit(1000, 0);
        // 8 more changed blocks: a commit ahead of the next call
        for (int k = 1; k <= 4; k++) {
            v.write(1, 16 * k, 500);
        }
        due("count(7)", v.count(7), 8);
        v.make(0, 0, false);
        // five came home as committed, eight are kept
        counts(v, 7, 0, 8, 18);
        landAll(v);
        block(v, DISC, 62, 77);
        due("read(1, 0)", v.read(1, 0), 500);
        v.crash(0);
        v.mount(true, 0, 0);
        due("read(1, 0)", v.read(1, 0), 500);
    }

    private static void removeBounds() {
        part = "7: a name goes, and what it is of";
        Twin v = big();
        v.make(0, 3, true);
        v.make(1, 4, true);
        v.make(1, MAX, false);
        v.write(3, 319, 1);
        due("remove(0, 3), two names", v.remove(0, 3), FULL);
        due("remove(1, 4), no name", v.remove(1, 4), 0);
        due("remove(0, 3), one name", v.remove(0, 3), FULL);
        due("remove(1, MAX)", v.remove(1, MAX), 0);
        due("count(11)", v.count(11), 2);
        due("remove(0, 3), no name", v.remove(0, 3), 0);
        due("remove(0, 3)", v.remove(0, 3), NONE);
        due("remove(1, 4)", v.remove(1, 4), WRONG);
        due("count(10)", v.count(10), 1);
        for (int name : new int[] {0, -1, MIN, MAX}) {
            due("remove(0, " + name + ")", v.remove(0, name), NONE);
        }
        due("inode(0, 0), the root stays", v.inode(0, 0), 1);
    }
}
