import java.util.Arrays;
import java.util.NoSuchElementException;

/** A tree of directories and files on a slow disc behind a fast flash that may go at any time. */
public final class EpochVolume {
    public static final int NONE = -1, THERE = -2, FULL = -3, WRONG = -4, DOWN = -9;

    private static final int WORDS = 16;
    private static final int PENDING = 64;

    private static final int DISC_BLOCKS = 125;
    private static final int HEAD = 1, LIST = 2, COPIES = 3, HOME = 19;

    private static final int HALF = 25, PLACES = 24, PAIRS = 6, FIRST_SLOT = 50;
    private static final int FREE = 0, CLEAN = 1, DIRTY = 2;
    private static final int EPOCH_SLOTS = 16;
    /** Far above the epochs that can wait to land: only there so that a loop's end is seen. */
    private static final int MANY = 1000;

    private static final int BLOCKS = 106, JOURNAL = 1, JOURNAL_BLOCKS = 28, MOST_COMMITTED = 12;
    private static final int USED_MAP = 29, INODE_BLOCKS = 30, REST = 42, REST_BLOCKS = 64;
    private static final int INODES = 24, INODE_WORDS = 8;
    private static final int KIND = 0, SIZE = 1, DIRECT = 2, DIRECTS = 4, INDIRECT = 6;
    private static final int DIRECTORY = 1, FILE = 2;
    private static final int FILE_BLOCKS = 20, FILE_PLACES = 320, NAMES = 8;
    private static final int BUSY = 7;

    private final Power power;
    private final Device disc;
    private final Device flash;
    private final Volume volume;
    private final Tree tree;

    public EpochVolume(int sets, int ways, int epochs) {
        int realSets = Math.max(1, Math.min(8, sets));
        int realWays = Math.max(2, Math.min(8, ways));
        int realEpochs = Math.max(1, Math.min(8, epochs));
        power = new Power();
        disc = new Device(power, DISC_BLOCKS);
        flash = new Device(power, FIRST_SLOT + realSets * realWays);
        volume = new Volume(disc, flash, new Slots(realSets, realWays), realEpochs);
        tree = new Tree(volume);
        disc.preset(0, 0, 1);
        disc.preset(HOME, 0, 1);
        disc.preset(HOME + INODE_BLOCKS, KIND, DIRECTORY);
        flash.preset(0, 0, 1);
        flash.preset(0, 1, 1);
    }

    public int make(int directory, int name, boolean isDirectory) {
        if (!power.up) {
            return DOWN;
        }
        try {
            tree.commitAbove(BUSY);
            return tree.create(directory, name, isDirectory ? DIRECTORY : FILE);
        } catch (IllegalStateException e) {
            return goDown(power.mask);
        }
    }

    public int find(int directory, int name) {
        if (!power.up) {
            return DOWN;
        }
        return tree.lookUp(directory, name);
    }

    public int write(int file, int place, int v) {
        if (!power.up) {
            return DOWN;
        }
        try {
            tree.commitAbove(BUSY);
            return tree.writeInt(file, place, v);
        } catch (IllegalStateException e) {
            return goDown(power.mask);
        }
    }

    public int read(int file, int place) throws IllegalStateException, NoSuchElementException {
        if (!power.up) {
            throw new IllegalStateException("it is down");
        }
        if (!tree.isFile(file) || place < 0 || place >= FILE_PLACES) {
            throw new NoSuchElementException("no such file, or place");
        }
        int b = tree.blockOf(file, place / WORDS);
        if (b == 0) {
            return 0;
        }
        if (!isLoaded(b)) {
            throw new IllegalStateException("it goes down by this");
        }
        return place < tree.inodeWord(file, SIZE) ? tree.at(b, place % WORDS) : 0;
    }

    public int cut(int file, int n) {
        if (!power.up) {
            return DOWN;
        }
        try {
            tree.commitAbove(BUSY);
            return tree.shorten(file, n);
        } catch (IllegalStateException e) {
            return goDown(power.mask);
        }
    }

    public int remove(int directory, int name) {
        if (!power.up) {
            return DOWN;
        }
        try {
            tree.commitAbove(BUSY);
            return tree.erase(directory, name);
        } catch (IllegalStateException e) {
            return goDown(power.mask);
        }
    }

    public int move(int directory, int name, int to, int other) {
        if (!power.up) {
            return DOWN;
        }
        try {
            tree.commitAbove(BUSY);
            return tree.rename(directory, name, to, other);
        } catch (IllegalStateException e) {
            return goDown(power.mask);
        }
    }

    public int inode(int i, int what) {
        if (!power.up || i < 0 || i >= INODES) {
            return NONE;
        }
        switch (what) {
            case 0: return tree.inodeWord(i, KIND);
            case 1: return tree.inodeWord(i, SIZE);
            case 2: return tree.isDirectory(i) ? tree.namesIn(i) : 0;
            case 3: return tree.blocksOf(i);
            default: return NONE;
        }
    }

    public int entry(int directory, int p, int what) {
        if (!power.up || !tree.isDirectory(directory) || what < 0 || what > 1) {
            return NONE;
        }
        if (p < 0 || p >= tree.inodeWord(directory, SIZE)) {
            return NONE;
        }
        return tree.entryWord(directory, p, what);
    }

    public int sync() {
        if (!power.up) {
            return DOWN;
        }
        try {
            tree.commitAbove(0);
            return volume.greatestClosed();
        } catch (IllegalStateException e) {
            return goDown(power.mask);
        }
    }

    public int land() {
        if (!power.up) {
            return DOWN;
        }
        if (!volume.flashed) {
            return 0;
        }
        try {
            return volume.landOldest();
        } catch (IllegalStateException e) {
            return goDown(power.mask);
        }
    }

    public int home() {
        if (!power.up) {
            return DOWN;
        }
        try {
            tree.commitAbove(0);
            int kept = tree.keptCount;
            tree.bringHome();
            return kept;
        } catch (IllegalStateException e) {
            return goDown(power.mask);
        }
    }

    public boolean limit(int n, long mask) {
        if (!power.up || n < 1 || n > 1000) {
            return false;
        }
        power.limitTo(n, mask);
        return true;
    }

    public boolean crash(long mask) {
        if (!power.up) {
            return false;
        }
        goDown(mask);
        return true;
    }

    public boolean lose(long mask) {
        flash.wipe();
        if (power.up) {
            goDown(mask);
        }
        return true;
    }

    public int mount(boolean flash, int n, long mask) {
        if (power.up || (flash && volume.goodHalf() < 0)) {
            return NONE;
        }
        power.limitTo(n, mask);
        try {
            volume.finishLanding();
            if (flash) {
                volume.openFlash();
            } else {
                volume.openDisc();
            }
            tree.load();
        } catch (IllegalStateException e) {
            return goDown(power.mask);
        }
        power.up = true;
        return volume.greatestClosed();
    }

    public int attach() {
        if (!power.up) {
            return DOWN;
        }
        if (volume.flashed) {
            return WRONG;
        }
        try {
            volume.takeNewFlash();
            return 0;
        } catch (IllegalStateException e) {
            return goDown(power.mask);
        }
    }

    public int slot(int i, int what) {
        if (!power.up || !volume.flashed) {
            return NONE;
        }
        return volume.slots.tellOf(i, what);
    }

    public int word(int device, int b, int w, boolean stable) {
        if (device < 0 || device > 1 || w < 0 || w >= WORDS) {
            return Integer.MIN_VALUE;
        }
        Device d = device == 0 ? disc : flash;
        if (!d.has(b)) {
            return Integer.MIN_VALUE;
        }
        return stable ? d.stable[b * WORDS + w] : d.now[b * WORDS + w];
    }

    public int count(int what) {
        switch (what) {
            case 0: return power.up ? 1 : 0;
            case 1: return power.up && volume.flashed ? 1 : 0;
            case 2: return volume.landed();
            case 3: case 4: case 5:
                return power.up && volume.flashed ? volume.tellEpochs(what) : NONE;
            case 6: case 7: case 8: case 9: case 10: case 11:
                return power.up ? tree.tellCount(what) : NONE;
            case 12: return disc.pending;
            case 13: return flash.pending;
            case 14: return disc.writes;
            case 15: return flash.writes;
            case 16: return disc.flushes;
            case 17: return flash.flushes;
            default: return NONE;
        }
    }

    private boolean isLoaded(int b) {
        try {
            tree.loadFileBlock(b);
            return true;
        } catch (IllegalStateException e) {
            goDown(power.mask);
            return false;
        }
    }

    private int goDown(long mask) {
        disc.losePending(mask);
        flash.losePending(mask);
        power.up = false;
        power.limitTo(0, 0L);
        return DOWN;
    }

    /** What both devices hang on: a device that may not do an act throws IllegalStateException. */
    private static final class Power {
        boolean up = true;
        /** The acts of both devices that were asked for, and the number of the one that is not done (0: none). */
        long acts;
        long lastAct;
        long mask;

        void limitTo(int n, long newMask) {
            lastAct = n > 0 ? acts + n : 0;
            mask = newMask;
        }
    }

    private static final class Device {
        final Power power;
        final int blocks;
        final int[] now;
        final int[] stable;
        /** The pending writes go round in these rows, so that none is ever moved. */
        final int[] pendingBlock = new int[PENDING];
        final int[] pendingWords = new int[PENDING * WORDS];
        int first;
        int pending;
        int writes;
        int flushes;

        Device(Power power, int blocks) {
            this.power = power;
            this.blocks = blocks;
            now = new int[blocks * WORDS];
            stable = new int[blocks * WORDS];
        }

        boolean has(int b) {
            return b >= 0 && b < blocks;
        }

        void preset(int b, int w, int v) {
            if (has(b) && w >= 0 && w < WORDS) {
                now[b * WORDS + w] = v;
                stable[b * WORDS + w] = v;
            }
        }

        int at(int b, int w) {
            return has(b) && w >= 0 && w < WORDS ? now[b * WORDS + w] : 0;
        }

        /** A write of the 16 words that begin at an index of a row. */
        void put(int b, int[] from, int index) {
            if (!has(b) || index < 0 || index > from.length - WORDS) {
                return;
            }
            power.acts++;
            if (power.acts == power.lastAct) {
                throw new IllegalStateException("the power goes");
            }
            if (pending == PENDING) {
                System.arraycopy(pendingWords, first * WORDS, stable, pendingBlock[first] * WORDS, WORDS);
                first = (first + 1) % PENDING;
                pending--;
            }
            int i = (first + pending) % PENDING;
            pendingBlock[i] = b;
            System.arraycopy(from, index, pendingWords, i * WORDS, WORDS);
            System.arraycopy(from, index, now, b * WORDS, WORDS);
            pending++;
            writes++;
        }

        void flush() {
            power.acts++;
            if (power.acts == power.lastAct) {
                throw new IllegalStateException("the power goes");
            }
            for (int j = 0; j < pending; j++) {
                int i = (first + j) % PENDING;
                System.arraycopy(pendingWords, i * WORDS, stable, pendingBlock[i] * WORDS, WORDS);
            }
            pending = 0;
            flushes++;
        }

        void losePending(long mask) {
            for (int j = 0; j < pending; j++) {
                int i = (first + j) % PENDING;
                if ((mask >>> j & 1L) != 0) {
                    System.arraycopy(pendingWords, i * WORDS, stable, pendingBlock[i] * WORDS, WORDS);
                }
            }
            for (int j = 0; j < pending; j++) {
                int from = pendingBlock[(first + j) % PENDING] * WORDS;
                System.arraycopy(stable, from, now, from, WORDS);
            }
            pending = 0;
        }

        void wipe() {
            Arrays.fill(now, 0);
            Arrays.fill(stable, 0);
            pending = 0;
        }
    }

    /** What is known of the flash's slots: which block each has, and who may be given up. */
    private static final class Slots {
        final int sets;
        final int ways;
        final int all;
        final int[] kind;
        final int[] block;
        final int[] epoch;
        final int[] mark;
        final int[] hand;

        Slots(int sets, int ways) {
            this.sets = Math.max(1, sets);
            this.ways = Math.max(1, ways);
            all = this.sets * this.ways;
            kind = new int[all];
            block = new int[all];
            epoch = new int[all];
            mark = new int[all];
            hand = new int[this.sets];
        }

        void clear() {
            for (int i = 0; i < all; i++) {
                free(i);
            }
            Arrays.fill(hand, 0);
        }

        void free(int i) {
            kind[i] = FREE;
            block[i] = 0;
            epoch[i] = 0;
            mark[i] = 0;
        }

        void setClean(int i, int b) {
            kind[i] = CLEAN;
            block[i] = b;
            epoch[i] = 0;
        }

        void setDirty(int i, int b, int e) {
            kind[i] = DIRTY;
            block[i] = b;
            epoch[i] = e;
        }

        /** -1 if no slot has the block; a clean one's epoch is 0, so a dirty one is newer. */
        int newest(int b) {
            int from = b % sets * ways;
            int found = -1;
            for (int i = from; i < from + ways; i++) {
                if (kind[i] != FREE && block[i] == b && (found < 0 || epoch[i] > epoch[found])) {
                    found = i;
                }
            }
            return found;
        }

        int findIn(int set) {
            for (int n = 0; n < 2 * ways; n++) {
                int way = (hand[set] + n) % ways;
                int i = set * ways + way;
                if (kind[i] == FREE || (kind[i] == CLEAN && mark[i] == 0)) {
                    free(i);
                    hand[set] = (way + 1) % ways;
                    return i;
                }
                if (kind[i] == CLEAN) {
                    mark[i] = 0;
                }
            }
            return -1;
        }

        /** The clean slot with a block, else one that is found; -1 if neither is. */
        int toWrite(int b) {
            int i = newest(b);
            return i >= 0 && kind[i] == CLEAN ? i : findIn(b % sets);
        }

        boolean hasClosed(int set, int open) {
            for (int i = set * ways; i < (set + 1) * ways; i++) {
                if (kind[i] == DIRTY && epoch[i] != open) {
                    return true;
                }
            }
            return false;
        }

        /** The dirty slots of an epoch, by rising numbers; answers how many. */
        int gather(int e, int[] to) {
            int n = 0;
            for (int i = 0; i < all; i++) {
                if (kind[i] == DIRTY && epoch[i] == e && n < to.length) {
                    to[n] = i;
                    n++;
                }
            }
            return n;
        }

        /** Sorts gathered slots by their blocks. */
        void sortByBlock(int[] chosen, int n) {
            for (int j = 1; j < n; j++) {
                int i = chosen[j];
                int k = j;
                while (k > 0 && block[chosen[k - 1]] > block[i]) {
                    chosen[k] = chosen[k - 1];
                    k--;
                }
                chosen[k] = i;
            }
        }

        void setLanded(int i) {
            kind[i] = CLEAN;
            epoch[i] = 0;
            int newest = newest(block[i]);
            if (newest >= 0 && kind[newest] == DIRTY) {
                free(i);
            }
        }

        int tellOf(int i, int what) {
            if (i < 0 || i >= all) {
                return NONE;
            }
            switch (what) {
                case 0: return kind[i];
                case 1: return kind[i] == FREE ? NONE : block[i];
                case 2: return epoch[i];
                case 3: return mark[i];
                case 4: return hand[i / ways] == i % ways ? 1 : 0;
                default: return NONE;
            }
        }
    }

    /** The blocks 0 to 105: on the disc alone, or behind the flash. */
    private static final class Volume {
        final Device disc;
        final Device flash;
        final Slots slots;
        final int epochs;
        final int[] row = new int[WORDS];
        final int[] chosen = new int[EPOCH_SLOTS];
        boolean flashed = true;
        int half;
        int generation = 1;
        int nextPlace;
        int open = 1;
        int openDirty;

        Volume(Device disc, Device flash, Slots slots, int epochs) {
            this.disc = disc;
            this.flash = flash;
            this.slots = slots;
            this.epochs = epochs;
        }

        int landed() {
            return disc.now[HEAD * WORDS + 1];
        }

        int greatestClosed() {
            return flashed ? open - 1 : landed();
        }

        int tellEpochs(int what) {
            switch (what) {
                case 3: return open;
                case 4: return open - 1 - landed();
                default: return openDirty;
            }
        }

        void setRow(int first, int second, int third) {
            Arrays.fill(row, 0);
            row[0] = first;
            row[1] = second;
            row[2] = third;
        }

        /** TO READ of the document: it marks, and takes what is not there to the flash. */
        void fetch(int b, int[] to) {
            peek(b, to);
            if (!flashed) {
                return;
            }
            int i = slots.newest(b);
            if (i >= 0) {
                slots.mark[i] = 1;
                return;
            }
            i = slots.findIn(b % slots.sets);
            if (i >= 0) {
                flash.put(FIRST_SLOT + i, disc.now, (HOME + b) * WORDS);
                slots.setClean(i, b);
            }
        }

        /** A block's words come to where it has its place in a row of all blocks; nothing is marked. */
        void peek(int b, int[] to) {
            if (b < 0 || b >= BLOCKS || to.length < BLOCKS * WORDS) {
                return;
            }
            int i = flashed ? slots.newest(b) : -1;
            if (i >= 0) {
                System.arraycopy(flash.now, (FIRST_SLOT + i) * WORDS, to, b * WORDS, WORDS);
            } else {
                System.arraycopy(disc.now, (HOME + b) * WORDS, to, b * WORDS, WORDS);
            }
        }

        /** TO WRITE of the document. */
        void store(int b, int[] from, int index) {
            if (b < 0 || b >= BLOCKS) {
                return;
            }
            if (!flashed) {
                disc.put(HOME + b, from, index);
                return;
            }
            int i = slots.newest(b);
            if (i < 0 || slots.epoch[i] != open) {
                if (openDirty == EPOCH_SLOTS) {
                    close();
                }
                i = slots.toWrite(b);
                for (int n = 0; n < MANY && i < 0; n++) {
                    if (!slots.hasClosed(b % slots.sets, open)) {
                        close();
                    }
                    landOldest();
                    i = slots.toWrite(b);
                }
                if (i < 0) {
                    return;
                }
                slots.setDirty(i, b, open);
                slots.mark[i] = 1;
                openDirty++;
            }
            flash.put(FIRST_SLOT + i, from, index);
        }

        void flushAll() {
            if (flashed) {
                close();
            } else {
                disc.flush();
            }
        }

        void close() {
            if (openDirty == 0) {
                return;
            }
            for (int n = 0; n < MANY && open - 1 - landed() >= epochs; n++) {
                landOldest();
            }
            int records = (openDirty + PAIRS - 1) / PAIRS;
            if (PLACES - nextPlace < records) {
                changeHalves();
            }
            int n = slots.gather(open, chosen);
            for (int r = 0; r < records; r++) {
                if (r == records - 1) {
                    flash.flush();
                }
                setRecord(open, n, r);
                flash.put(half * HALF + 1 + nextPlace, row, 0);
                nextPlace++;
            }
            flash.flush();
            open++;
            openDirty = 0;
        }

        /** The row becomes the r-th record of an epoch whose n slots are chosen. */
        void setRecord(int e, int n, int r) {
            int from = r * PAIRS;
            int here = Math.min(PAIRS, n - from);
            Arrays.fill(row, 0);
            row[0] = generation;
            row[1] = e;
            row[2] = from + PAIRS >= n ? 1 : 0;
            row[3] = here;
            for (int j = 0; j < here; j++) {
                int i = chosen[from + j];
                row[4 + 2 * j] = i;
                row[5 + 2 * j] = slots.block[i];
            }
        }

        void changeHalves() {
            generation++;
            half = 1 - half;
            nextPlace = 0;
            for (int e = landed() + 1; e < open; e++) {
                int n = slots.gather(e, chosen);
                for (int r = 0; r * PAIRS < n && nextPlace < PLACES; r++) {
                    setRecord(e, n, r);
                    flash.put(half * HALF + 1 + nextPlace, row, 0);
                    nextPlace++;
                }
            }
            flash.flush();
            setRow(generation, disc.at(0, 0), 0);
            flash.put(half * HALF, row, 0);
            flash.flush();
        }

        /** The oldest closed epoch lands: its number, 0 if there is none. */
        int landOldest() {
            int e = landed() + 1;
            if (e >= open) {
                return 0;
            }
            int n = slots.gather(e, chosen);
            slots.sortByBlock(chosen, n);
            for (int j = 0; j < n; j++) {
                disc.put(COPIES + j, flash.now, (FIRST_SLOT + chosen[j]) * WORDS);
            }
            Arrays.fill(row, 0);
            for (int j = 0; j < n; j++) {
                row[j] = slots.block[chosen[j]];
            }
            disc.put(LIST, row, 0);
            disc.flush();
            setRow(1, e, n);
            disc.put(HEAD, row, 0);
            disc.flush();
            for (int j = 0; j < n; j++) {
                disc.put(HOME + slots.block[chosen[j]], flash.now, (FIRST_SLOT + chosen[j]) * WORDS);
            }
            disc.flush();
            setRow(0, e, 0);
            disc.put(HEAD, row, 0);
            disc.flush();
            for (int j = 0; j < n; j++) {
                slots.setLanded(chosen[j]);
            }
            return e;
        }

        /** What the power cut off of a landing, behind its first HEAD, is done again. */
        void finishLanding() {
            if (disc.at(HEAD, 0) != 1) {
                return;
            }
            int n = Math.min(EPOCH_SLOTS, disc.at(HEAD, 2));
            for (int j = 0; j < n; j++) {
                int b = disc.at(LIST, j);
                if (b >= 0 && b < BLOCKS) {
                    disc.put(HOME + b, disc.now, (COPIES + j) * WORDS);
                }
            }
            disc.flush();
            setRow(0, landed(), 0);
            disc.put(HEAD, row, 0);
            disc.flush();
        }

        /** The half that counts; -1: none has the disc's identity. */
        int goodHalf() {
            int found = -1;
            for (int h = 0; h < 2; h++) {
                boolean greater = found < 0 || flash.at(h * HALF, 0) > flash.at(found * HALF, 0);
                if (flash.at(h * HALF, 1) == disc.at(0, 0) && greater) {
                    found = h;
                }
            }
            return found;
        }

        void openFlash() {
            flashed = true;
            half = Math.max(0, goodHalf());
            generation = flash.at(half * HALF, 0);
            startSlots();
            for (int p = 0; p < PLACES; p++) {
                int at = half * HALF + 1 + p;
                int e = flash.at(at, 1);
                if (flash.at(at, 0) == generation && e > landed() && hasLast(e)) {
                    takeRecord(at, e);
                    open = Math.max(open, e + 1);
                }
            }
            changeHalves();
        }

        void startSlots() {
            slots.clear();
            openDirty = 0;
            open = landed() + 1;
        }

        boolean hasLast(int e) {
            for (int p = 0; p < PLACES; p++) {
                int at = half * HALF + 1 + p;
                if (flash.at(at, 0) == generation && flash.at(at, 1) == e && flash.at(at, 2) == 1) {
                    return true;
                }
            }
            return false;
        }

        void takeRecord(int at, int e) {
            int n = Math.min(PAIRS, flash.at(at, 3));
            for (int j = 0; j < n; j++) {
                int i = flash.at(at, 4 + 2 * j);
                int b = flash.at(at, 5 + 2 * j);
                if (i >= 0 && i < slots.all && b >= 0 && b < BLOCKS) {
                    slots.setDirty(i, b, e);
                }
            }
        }

        void openDisc() {
            flashed = false;
            setRow(disc.at(0, 0) + 1, 0, 0);
            disc.put(0, row, 0);
            disc.flush();
        }

        void takeNewFlash() {
            flash.wipe();
            int identity = disc.at(0, 0) + 1;
            setRow(1, identity, 0);
            flash.put(0, row, 0);
            flash.flush();
            setRow(identity, 0, 0);
            disc.put(0, row, 0);
            disc.flush();
            half = 0;
            generation = 1;
            nextPlace = 0;
            startSlots();
            flashed = true;
        }
    }

    /** Directories and files, as they are in memory, and their journal. */
    private static final class Tree {
        final Volume volume;
        /** Every block as it is now; one of a file's ints only while it is changed or kept. */
        final int[] now = new int[BLOCKS * WORDS];
        /** What was committed is held apart: what is changed since then may not come home with it. */
        final int[] keptWords = new int[BLOCKS * WORDS];
        final boolean[] changed = new boolean[BLOCKS];
        final boolean[] kept = new boolean[BLOCKS];
        final int[] row = new int[WORDS];
        int changedCount;
        int keptCount;
        int sequence = 1;
        int journalUsed;

        Tree(Volume volume) {
            this.volume = volume;
            now[INODE_BLOCKS * WORDS + KIND] = DIRECTORY;
        }

        int tellCount(int what) {
            switch (what) {
                case 6: return sequence;
                case 7: return changedCount;
                case 8: return keptCount;
                case 9: return JOURNAL_BLOCKS - journalUsed;
                case 10: return usedInodes();
                default: return usedBlocks();
            }
        }

        int usedInodes() {
            int n = 0;
            for (int i = 0; i < INODES; i++) {
                if (inodeWord(i, KIND) != 0) {
                    n++;
                }
            }
            return n;
        }

        int usedBlocks() {
            return Integer.bitCount(at(USED_MAP, 0)) + Integer.bitCount(at(USED_MAP, 1));
        }

        int at(int b, int w) {
            return b >= 0 && b < BLOCKS && w >= 0 && w < WORDS ? now[b * WORDS + w] : 0;
        }

        void tell(int b, int w, int v) {
            if (b >= 0 && b < BLOCKS && w >= 0 && w < WORDS) {
                now[b * WORDS + w] = v;
                setChanged(b);
            }
        }

        void setChanged(int b) {
            if (!changed[b]) {
                changed[b] = true;
                changedCount++;
            }
        }

        int inodeWord(int i, int w) {
            if (i < 0 || i >= INODES || w < 0 || w >= INODE_WORDS) {
                return 0;
            }
            return now[INODE_BLOCKS * WORDS + INODE_WORDS * i + w];
        }

        void tellInode(int i, int w, int v) {
            tell(INODE_BLOCKS + i / 2, INODE_WORDS * (i % 2) + w, v);
        }

        boolean isDirectory(int i) {
            return inodeWord(i, KIND) == DIRECTORY;
        }

        boolean isFile(int i) {
            return inodeWord(i, KIND) == FILE;
        }

        /** 0 for all that is no block of the rest. */
        int blockNumber(int b) {
            return b >= REST && b < BLOCKS ? b : 0;
        }

        int indirectOf(int i) {
            return blockNumber(inodeWord(i, INDIRECT));
        }

        int blockOf(int i, int k) {
            if (k < DIRECTS) {
                return blockNumber(inodeWord(i, DIRECT + k));
            }
            int indirect = indirectOf(i);
            return indirect == 0 ? 0 : blockNumber(at(indirect, k - DIRECTS));
        }

        void tellBlockOf(int i, int k, int b) {
            if (k < DIRECTS) {
                tellInode(i, DIRECT + k, b);
            } else if (indirectOf(i) != 0) {
                tell(indirectOf(i), k - DIRECTS, b);
            }
        }

        int blocksOf(int i) {
            int n = indirectOf(i) == 0 ? 0 : 1;
            for (int k = 0; k < FILE_BLOCKS; k++) {
                if (blockOf(i, k) != 0) {
                    n++;
                }
            }
            return n;
        }

        /** The lowest block that is not used, 0 in all words; 0: all are used. */
        int take() {
            for (int k = 0; k < REST_BLOCKS; k++) {
                int used = at(USED_MAP, k / 32);
                if ((used >>> k % 32 & 1) == 0) {
                    tell(USED_MAP, k / 32, used | 1 << k % 32);
                    int b = REST + k;
                    for (int w = 0; w < WORDS; w++) {
                        tell(b, w, 0);
                    }
                    return b;
                }
            }
            return 0;
        }

        void giveBack(int b) {
            int k = b - REST;
            if (k >= 0 && k < REST_BLOCKS) {
                tell(USED_MAP, k / 32, at(USED_MAP, k / 32) & ~(1 << k % 32));
            }
        }

        /** A block k for an inode: its number; 0: what it needs is not left, and nothing was taken. */
        int addBlock(int i, int k) {
            boolean wantsIndirect = k >= DIRECTS && indirectOf(i) == 0;
            int left = REST_BLOCKS - usedBlocks();
            if (k < 0 || k >= FILE_BLOCKS || left < (wantsIndirect ? 2 : 1)) {
                return 0;
            }
            if (wantsIndirect) {
                tellInode(i, INDIRECT, take());
            }
            int b = take();
            tellBlockOf(i, k, b);
            return b;
        }

        int entryWord(int d, int p, int w) {
            return at(blockOf(d, p / NAMES), 2 * (p % NAMES) + w);
        }

        void tellEntry(int d, int p, int name, int i) {
            int b = blockOf(d, p / NAMES);
            tell(b, 2 * (p % NAMES), name);
            tell(b, 2 * (p % NAMES) + 1, i);
        }

        int placesOf(int d) {
            return Math.max(0, Math.min(FILE_BLOCKS * NAMES, inodeWord(d, SIZE)));
        }

        int namesIn(int d) {
            int n = 0;
            for (int p = 0; p < placesOf(d); p++) {
                if (entryWord(d, p, 0) != 0) {
                    n++;
                }
            }
            return n;
        }

        /** The lowest place with a name (0: without one) in a directory; -1: there is none. */
        int placeOf(int d, int name) {
            for (int p = 0; p < placesOf(d); p++) {
                if (entryWord(d, p, 0) == name) {
                    return p;
                }
            }
            return -1;
        }

        /** A place for a new name; -1: there is none, and nothing was taken. */
        int placeForNew(int d) {
            int p = placeOf(d, 0);
            if (p >= 0) {
                return p;
            }
            int size = placesOf(d);
            if (addBlock(d, size / NAMES) == 0) {
                return -1;
            }
            tellInode(d, SIZE, size + NAMES);
            return size;
        }

        int freeInode() {
            for (int i = 0; i < INODES; i++) {
                if (inodeWord(i, KIND) == 0) {
                    return i;
                }
            }
            return -1;
        }

        int lookUp(int d, int name) {
            if (!isDirectory(d)) {
                return WRONG;
            }
            int p = name < 1 ? -1 : placeOf(d, name);
            return p < 0 ? NONE : entryWord(d, p, 1);
        }

        int create(int d, int name, int kind) {
            if (!isDirectory(d) || name < 1) {
                return WRONG;
            }
            if (placeOf(d, name) >= 0) {
                return THERE;
            }
            int i = freeInode();
            int p = i < 0 ? -1 : placeForNew(d);
            if (p < 0) {
                return FULL;
            }
            tellInode(i, KIND, kind);
            tellEntry(d, p, name, i);
            return i;
        }

        int erase(int d, int name) {
            if (!isDirectory(d)) {
                return WRONG;
            }
            int p = name < 1 ? -1 : placeOf(d, name);
            if (p < 0) {
                return NONE;
            }
            int i = entryWord(d, p, 1);
            if (isDirectory(i) && namesIn(i) > 0) {
                return FULL;
            }
            for (int k = 0; k < FILE_BLOCKS; k++) {
                giveBack(blockOf(i, k));
            }
            giveBack(indirectOf(i));
            for (int w = 0; w < INODE_WORDS; w++) {
                tellInode(i, w, 0);
            }
            tellEntry(d, p, 0, 0);
            return 0;
        }

        int rename(int d, int name, int to, int other) {
            if (!isDirectory(d) || !isDirectory(to) || other < 1) {
                return WRONG;
            }
            int p = name < 1 ? -1 : placeOf(d, name);
            if (p < 0) {
                return NONE;
            }
            if (placeOf(to, other) >= 0) {
                return THERE;
            }
            int i = entryWord(d, p, 1);
            if (isDirectory(i) && isWithin(to, i)) {
                return WRONG;
            }
            int q = placeForNew(to);
            if (q < 0) {
                return FULL;
            }
            tellEntry(to, q, other, i);
            tellEntry(d, p, 0, 0);
            return 0;
        }

        /** Whether a directory is another one, or below it. */
        boolean isWithin(int d, int other) {
            int up = d;
            for (int n = 0; n < INODES && up != 0; n++) {
                if (up == other) {
                    return true;
                }
                up = parentOf(up);
            }
            return up == other;
        }

        int parentOf(int i) {
            for (int d = 0; d < INODES; d++) {
                int places = isDirectory(d) ? placesOf(d) : 0;
                for (int p = 0; p < places; p++) {
                    if (entryWord(d, p, 0) != 0 && entryWord(d, p, 1) == i) {
                        return d;
                    }
                }
            }
            return 0;
        }

        void loadFileBlock(int b) {
            if (b >= REST && b < BLOCKS && !changed[b] && !kept[b]) {
                volume.fetch(b, now);
            }
        }

        int writeInt(int f, int place, int v) {
            if (!isFile(f) || place < 0 || place >= FILE_PLACES) {
                return WRONG;
            }
            int b = blockOf(f, place / WORDS);
            if (b != 0) {
                loadFileBlock(b);
            } else {
                b = addBlock(f, place / WORDS);
            }
            if (b == 0) {
                return FULL;
            }
            tell(b, place % WORDS, v);
            if (place >= inodeWord(f, SIZE)) {
                tellInode(f, SIZE, place + 1);
            }
            return inodeWord(f, SIZE);
        }

        int shorten(int f, int n) {
            if (!isFile(f) || n < 0 || n > inodeWord(f, SIZE)) {
                return WRONG;
            }
            if (n == inodeWord(f, SIZE)) {
                return 0;
            }
            int last = n % WORDS == 0 ? 0 : blockOf(f, n / WORDS);
            if (last != 0) {
                loadFileBlock(last);
                for (int w = n % WORDS; w < WORDS; w++) {
                    tell(last, w, 0);
                }
            }
            for (int k = (n + WORDS - 1) / WORDS; k < FILE_BLOCKS; k++) {
                int b = blockOf(f, k);
                if (b != 0) {
                    tellBlockOf(f, k, 0);
                    giveBack(b);
                }
            }
            giveBackEmptyIndirect(f);
            tellInode(f, SIZE, n);
            return 0;
        }

        void giveBackEmptyIndirect(int f) {
            int indirect = indirectOf(f);
            if (indirect == 0) {
                return;
            }
            for (int k = DIRECTS; k < FILE_BLOCKS; k++) {
                if (blockOf(f, k) != 0) {
                    return;
                }
            }
            tellInode(f, INDIRECT, 0);
            giveBack(indirect);
        }

        /** All that is changed is committed, if it is more than so many blocks. */
        void commitAbove(int most) {
            int n = changedCount;
            if (n <= most) {
                return;
            }
            if (JOURNAL_BLOCKS - journalUsed < n + 2) {
                bringHome();
            }
            int next = JOURNAL + journalUsed;
            setCommitRow(n);
            volume.store(next, row, 0);
            for (int b = 0; b < BLOCKS; b++) {
                if (changed[b]) {
                    next++;
                    System.arraycopy(now, b * WORDS, row, 0, WORDS);
                    row[0] = looksLikeJournal(row[0]) ? 0 : row[0];
                    volume.store(next, row, 0);
                }
            }
            volume.flushAll();
            Arrays.fill(row, 0);
            row[0] = 2;
            row[1] = sequence;
            volume.store(next + 1, row, 0);
            volume.flushAll();
            sequence++;
            journalUsed += n + 2;
            keepChanged();
        }

        boolean looksLikeJournal(int word) {
            return word == 1 || word == 2;
        }

        /** The row becomes what stands ahead of n changed blocks in the journal. */
        void setCommitRow(int n) {
            Arrays.fill(row, 0);
            row[0] = 1;
            row[1] = sequence;
            row[2] = n;
            int j = 0;
            for (int b = 0; b < BLOCKS; b++) {
                if (changed[b] && j < MOST_COMMITTED) {
                    row[3 + j] = b;
                    int word = at(b, 0);
                    row[WORDS - 1] |= (looksLikeJournal(word) ? word : 0) << 2 * j;
                    j++;
                }
            }
        }

        void keepChanged() {
            for (int b = 0; b < BLOCKS; b++) {
                if (changed[b]) {
                    System.arraycopy(now, b * WORDS, keptWords, b * WORDS, WORDS);
                    setKept(b);
                }
            }
            changeNone();
        }

        void setKept(int b) {
            if (!kept[b]) {
                kept[b] = true;
                keptCount++;
            }
        }

        void bringHome() {
            if (keptCount == 0) {
                return;
            }
            for (int b = 0; b < BLOCKS; b++) {
                if (kept[b]) {
                    volume.store(b, keptWords, b * WORDS);
                }
            }
            volume.flushAll();
            Arrays.fill(row, 0);
            row[0] = sequence;
            volume.store(0, row, 0);
            volume.flushAll();
            keepNone();
        }

        void keepNone() {
            for (int b = 0; b < BLOCKS; b++) {
                kept[b] = false;
            }
            keptCount = 0;
            journalUsed = 0;
        }

        void changeNone() {
            for (int b = 0; b < BLOCKS; b++) {
                changed[b] = false;
            }
            changedCount = 0;
        }

        /** The tree as the volume has it, with what the journal has brought home. */
        void load() {
            changeNone();
            keepNone();
            peekAll();
            sequence = at(0, 0);
            int from = JOURNAL;
            for (int n = 0; n < JOURNAL_BLOCKS && isCommit(from); n++) {
                replay(from);
                from += at(from, 2) + 2;
                sequence++;
            }
            bringHome();
            peekAll();
        }

        void peekAll() {
            for (int b = 0; b < BLOCKS; b++) {
                volume.peek(b, now);
            }
        }

        boolean isCommit(int from) {
            int n = at(from, 2);
            if (at(from, 0) != 1 || at(from, 1) != sequence || n < 1 || n > MOST_COMMITTED) {
                return false;
            }
            int end = from + n + 1;
            return end < JOURNAL + JOURNAL_BLOCKS && at(end, 0) == 2 && at(end, 1) == sequence;
        }

        void replay(int from) {
            int n = Math.min(MOST_COMMITTED, at(from, 2));
            for (int j = 0; j < n; j++) {
                int b = at(from, 3 + j);
                if (b > 0 && b < BLOCKS && from + 1 + j < BLOCKS) {
                    System.arraycopy(now, (from + 1 + j) * WORDS, keptWords, b * WORDS, WORDS);
                    int word = at(from, WORDS - 1) >>> 2 * j & 3;
                    if (word != 0) {
                        keptWords[b * WORDS] = word;
                    }
                    setKept(b);
                }
            }
        }
    }
}
