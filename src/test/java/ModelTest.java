import java.util.ArrayList;
import java.util.Arrays;
import java.util.List;
import java.util.NoSuchElementException;
import java.util.Random;
import java.util.TreeMap;
import java.util.TreeSet;

/**
 * Random runs of calls (seeds are fixed) on the class and on a plain model of the document, made of the
 * library's collections: every answer, and now and then every word of both devices, must be the same.
 */
public final class ModelTest {
    private static final int RUNS = 1000;
    private static int wrong = 0;

    public static void main(String[] args) {
        int runs = args.length > 0 ? Integer.parseInt(args[0]) : RUNS;
        long first = args.length > 1 ? Long.parseLong(args[1]) : 0;
        for (long seed = first; seed < first + runs && wrong == 0; seed++) {
            new Run(seed).go();
        }
        System.out.println(wrong == 0 ? "the class and the model agree" : "the class and the model differ");
        if (wrong != 0) {
            System.exit(1);
        }
    }

    /** One object and one model, and the calls that both get. */
    static final class Run {
        final long seed;
        final Random random;
        final Twin real;
        final Model model;
        final int style;
        /** Below 512, so that an object can still be asked something behind its last change. */
        final int length;
        int calls = 0;

        Run(long seed) {
            this.seed = seed;
            random = new Random(seed);
            int sets = random.nextInt(10);
            int ways = random.nextInt(10);
            int epochs = random.nextInt(10);
            style = random.nextInt(4);
            real = new Twin(sets, ways, epochs);
            length = 40 + random.nextInt(400);
            model = new Model(sets, ways, epochs);
        }

        void same(String call, long got, long want) {
            if (got != want) {
                wrong++;
                System.out.println("seed " + seed + ", call " + calls + ": " + call + " answered " + got + ", the model " + want);
            }
        }

        void go() {
            while (calls < length && wrong == 0) {
                oneCall();
                calls++;
                int what = random.nextInt(20) - 1;
                same("count(" + what + ")", real.count(what), model.count(what));
                if (random.nextInt(200) == 0) {
                    compareAll();
                }
            }
            compareCounts();
            compareAll();
        }

        long mask() {
            switch (random.nextInt(4)) {
                case 0: return 0;
                case 1: return -1;
                case 2: return random.nextLong();
                default: return random.nextLong() & random.nextLong() & random.nextLong();
            }
        }

        int anInode() {
            return random.nextInt(12) == 0 ? random.nextInt(30) - 3 : random.nextInt(style == 1 ? 24 : 6);
        }

        int aName() {
            return random.nextInt(15) == 0 ? random.nextInt(4) - 2 : 1 + random.nextInt(style == 1 ? 30 : 8);
        }

        int aDirectory() {
            if (random.nextInt(3) == 0) {
                return anInode();
            }
            return pick(1);
        }

        int aFile() {
            if (random.nextInt(10) == 0) {
                return anInode();
            }
            return pick(2);
        }

        int pick(int kind) {
            List<Integer> those = new ArrayList<>();
            for (int i = 0; i < 24; i++) {
                if (model.inode(i, 0) == kind) {
                    those.add(i);
                }
            }
            return those.isEmpty() ? 0 : those.get(random.nextInt(those.size()));
        }

        int aPlace() {
            switch (random.nextInt(8)) {
                case 0: return random.nextInt(330) - 5;
                case 1: return random.nextInt(320);
                case 2: case 3: return random.nextInt(100);
                default: return random.nextInt(40);
            }
        }

        void oneCall() {
            if (model.count(0) == 0 && random.nextInt(3) != 0) {
                boolean flash = random.nextInt(4) != 0;
                int n = random.nextInt(3) == 0 ? random.nextInt(60) : random.nextInt(20) == 0 ? 1 << 30 : -random.nextInt(2);
                long m = mask();
                same("mount(" + flash + ", " + n + ", " + m + ")", real.mount(flash, n, m), model.mount(flash, n, m));
                return;
            }
            int r = random.nextInt(100);
            if (r < 12) {
                int d = aDirectory();
                int name = aName();
                boolean dir = random.nextInt(3) == 0;
                same("make(" + d + ", " + name + ", " + dir + ")", real.make(d, name, dir), model.make(d, name, dir));
            } else if (r < 15) {
                int d = aDirectory();
                int name = aName();
                same("find(" + d + ", " + name + ")", real.find(d, name), model.find(d, name));
            } else if (r < 45) {
                int f = aFile();
                int p = aPlace();
                int v = random.nextInt(4);
                same("write(" + f + ", " + p + ", " + v + ")", real.write(f, p, v), model.write(f, p, v));
            } else if (r < 57) {
                readBoth();
            } else if (r < 62) {
                int f = aFile();
                int n = random.nextInt(4) == 0 ? random.nextInt(325) - 2 : Math.max(0, model.inode(f, 1) - random.nextInt(40));
                same("cut(" + f + ", " + n + ")", real.cut(f, n), model.cut(f, n));
            } else if (r < 66) {
                int d = aDirectory();
                int name = aName();
                same("remove(" + d + ", " + name + ")", real.remove(d, name), model.remove(d, name));
            } else if (r < 71) {
                int d = aDirectory();
                int name = aName();
                int to = aDirectory();
                int other = aName();
                same("move(" + d + ", " + name + ", " + to + ", " + other + ")", real.move(d, name, to, other), model.move(d, name, to, other));
            } else {
                deviceCall(r);
            }
        }

        void deviceCall(int r) {
            if (r < 79) {
                same("sync()", real.sync(), model.sync());
            } else if (r < 83) {
                same("land()", real.land(), model.land());
            } else if (r < 86) {
                same("home()", real.home(), model.home());
            } else if (r < 90) {
                int n = random.nextInt(6) == 0 ? random.nextInt(1010) - 4 : random.nextInt(60);
                long m = mask();
                same("limit(" + n + ", " + m + ")", real.limit(n, m) ? 1 : 0, model.limit(n, m) ? 1 : 0);
            } else if (r < 92) {
                long m = mask();
                same("crash(" + m + ")", real.crash(m) ? 1 : 0, model.crash(m) ? 1 : 0);
            } else if (r < 93) {
                long m = mask();
                if (random.nextInt(3) == 0) {
                    same("lose(" + m + ")", real.lose(m) ? 1 : 0, model.lose(m) ? 1 : 0);
                }
            } else if (r < 95) {
                same("attach()", real.attach(), model.attach());
            } else if (r < 96) {
                same("mount(true, 0, 0)", real.mount(true, 0, 0), model.mount(true, 0, 0));
            } else {
                readBoth();
            }
        }

        void readBoth() {
            int f = aFile();
            int p = aPlace();
            long want;
            long got = real.read(f, p);
            try {
                want = model.read(f, p);
            } catch (IllegalStateException e) {
                want = Twin.ILLEGAL_STATE;
            } catch (NoSuchElementException e) {
                want = Twin.NO_SUCH;
            }
            same("read(" + f + ", " + p + ")", got, want);
        }

        void compareCounts() {
            for (int what = -1; what < 19; what++) {
                same("count(" + what + ")", real.count(what), model.count(what));
            }
        }

        void compareAll() {
            for (int i = -1; i < 65; i++) {
                for (int what = -1; what < 6; what++) {
                    same("slot(" + i + ", " + what + ")", real.slot(i, what), model.slot(i, what));
                }
            }
            for (int i = -1; i < 25; i++) {
                for (int what = -1; what < 5; what++) {
                    same("inode(" + i + ", " + what + ")", real.inode(i, what), model.inode(i, what));
                }
                for (int p = -1; p < 26; p++) {
                    for (int what = -1; what < 3; what++) {
                        same("entry(" + i + ", " + p + ", " + what + ")", real.entry(i, p, what), model.entry(i, p, what));
                    }
                }
            }
            for (int b = -1; b < 126; b++) {
                for (int w = -1; w < 17; w++) {
                    compareWord(0, b, w, false);
                    compareWord(0, b, w, true);
                    compareWord(1, b, w, false);
                    compareWord(1, b, w, true);
                }
            }
        }

        void compareWord(int device, int b, int w, boolean stable) {
            int got = real.word(device, b, w, stable);
            int want = model.word(device, b, w, stable);
            if (got != want) {
                same("word(" + device + ", " + b + ", " + w + ", " + stable + ")", got, want);
            }
        }
    }

    static final class PowerGone extends RuntimeException {
        private static final long serialVersionUID = 1L;
    }

    /** A block's write that is pending. */
    static final class Write {
        final int block;
        final int[] words;

        Write(int block, int[] words) {
            this.block = block;
            this.words = words;
        }
    }

    static final class Dev {
        final int blocks;
        final TreeMap<Integer, int[]> stable = new TreeMap<>();
        final List<Write> pending = new ArrayList<>();
        int writes = 0;
        int flushes = 0;

        Dev(int blocks) {
            this.blocks = blocks;
        }

        int[] stableBlock(int b) {
            return stable.getOrDefault(b, new int[16]).clone();
        }

        int[] get(int b) {
            for (int k = pending.size() - 1; k >= 0; k--) {
                if (pending.get(k).block == b) {
                    return pending.get(k).words.clone();
                }
            }
            return stableBlock(b);
        }

        void settle(Write w) {
            stable.put(w.block, w.words);
        }
    }

    static final class Slot {
        int block = -1;
        int epoch = 0;
        boolean mark = false;
    }

    /** The document, word for word. */
    static final class Model {
        final int sets;
        final int ways;
        final int epochs;
        final Dev disc = new Dev(125);
        final Dev flash;
        boolean up = true;
        boolean useFlash = true;
        boolean limited = false;
        long actsLeft;
        long limitMask;

        final Slot[] slots;
        final int[] hand;
        int half = 0;
        int generation = 1;
        int place = 0;
        int open = 1;

        /** The blocks in memory: the tree's own always, a file's while it is changed or kept. */
        TreeMap<Integer, int[]> memory = new TreeMap<>();
        TreeSet<Integer> changed = new TreeSet<>();
        TreeMap<Integer, int[]> kept = new TreeMap<>();
        int sequence = 1;
        int journalNext = 1;

        Model(int sets, int ways, int epochs) {
            this.sets = Math.min(8, Math.max(1, sets));
            this.ways = Math.min(8, Math.max(2, ways));
            this.epochs = Math.min(8, Math.max(1, epochs));
            flash = new Dev(50 + this.sets * this.ways);
            slots = new Slot[this.sets * this.ways];
            hand = new int[this.sets];
            freeAllSlots();
            disc.stable.put(0, row(1));
            disc.stable.put(19, row(1));
            disc.stable.put(49, row(1));
            flash.stable.put(0, row(1, 1));
            loadTree();
        }

        static int[] row(int... first) {
            return Arrays.copyOf(first, 16);
        }

        // ---- devices

        void act() {
            if (limited && --actsLeft == 0) {
                powerGoes(limitMask);
                throw new PowerGone();
            }
        }

        void put(Dev d, int b, int[] words) {
            act();
            if (d.pending.size() == 64) {
                d.settle(d.pending.remove(0));
            }
            d.pending.add(new Write(b, words.clone()));
            d.writes++;
        }

        void flush(Dev d) {
            act();
            for (Write w : d.pending) {
                d.settle(w);
            }
            d.pending.clear();
            d.flushes++;
        }

        void powerGoes(long mask) {
            for (Dev d : new Dev[] {disc, flash}) {
                for (int k = 0; k < d.pending.size(); k++) {
                    if (((mask >> k) & 1) == 1) {
                        d.settle(d.pending.get(k));
                    }
                }
                d.pending.clear();
            }
            limited = false;
            up = false;
        }

        // ---- the volume

        int landed() {
            return disc.get(1)[1];
        }

        boolean dirty(int i) {
            return slots[i].epoch > 0;
        }

        boolean clean(int i) {
            return slots[i].block >= 0 && slots[i].epoch == 0;
        }

        void freeAllSlots() {
            for (int i = 0; i < slots.length; i++) {
                slots[i] = new Slot();
            }
            for (int s = 0; s < sets; s++) {
                hand[s] = s * ways;
            }
        }

        int newest(int b) {
            int best = -1;
            for (int i = 0; i < slots.length; i++) {
                if (slots[i].block == b && (best == -1 || slots[i].epoch > slots[best].epoch)) {
                    best = i;
                }
            }
            return best;
        }

        int findSlot(int set) {
            int at = hand[set];
            for (int n = 0; n < 2 * ways; n++) {
                int behind = at + 1 == (set + 1) * ways ? set * ways : at + 1;
                Slot s = slots[at];
                if (s.block < 0 || clean(at) && !s.mark) {
                    slots[at] = new Slot();
                    hand[set] = behind;
                    return at;
                }
                if (clean(at)) {
                    s.mark = false;
                }
                at = behind;
            }
            return -1;
        }

        int[] peek(int b) {
            int i = useFlash ? newest(b) : -1;
            return i >= 0 ? flash.get(50 + i) : disc.get(19 + b);
        }

        int[] readVolume(int b) {
            if (!useFlash) {
                return disc.get(19 + b);
            }
            int i = newest(b);
            if (i >= 0) {
                slots[i].mark = true;
                return flash.get(50 + i);
            }
            int[] words = disc.get(19 + b);
            int s = findSlot(b % sets);
            if (s >= 0) {
                put(flash, 50 + s, words);
                slots[s].block = b;
            }
            return words;
        }

        int cleanSlot(int b) {
            for (int i = 0; i < slots.length; i++) {
                if (slots[i].block == b && clean(i)) {
                    return i;
                }
            }
            return -1;
        }

        List<Integer> slotsOf(int epoch) {
            List<Integer> those = new ArrayList<>();
            for (int i = 0; i < slots.length; i++) {
                if (slots[i].epoch == epoch) {
                    those.add(i);
                }
            }
            return those;
        }

        TreeSet<Integer> closedEpochs() {
            TreeSet<Integer> those = new TreeSet<>();
            for (Slot s : slots) {
                if (s.epoch > 0 && s.epoch != open) {
                    those.add(s.epoch);
                }
            }
            return those;
        }

        boolean setHasClosed(int set) {
            for (int i = set * ways; i < (set + 1) * ways; i++) {
                if (dirty(i) && slots[i].epoch < open) {
                    return true;
                }
            }
            return false;
        }

        void writeVolume(int b, int[] words) {
            if (!useFlash) {
                put(disc, 19 + b, words);
                return;
            }
            int i = newest(b);
            if (i >= 0 && slots[i].epoch == open) {
                put(flash, 50 + i, words);
                return;
            }
            if (slotsOf(open).size() == 16) {
                close();
            }
            int s = -1;
            while (s < 0) {
                s = cleanSlot(b);
                if (s < 0) {
                    s = findSlot(b % sets);
                }
                if (s < 0) {
                    if (!setHasClosed(b % sets)) {
                        close();
                    }
                    landEpoch();
                }
            }
            put(flash, 50 + s, words);
            slots[s].block = b;
            slots[s].epoch = open;
            slots[s].mark = true;
        }

        List<int[]> records(int epoch) {
            List<int[]> all = new ArrayList<>();
            List<Integer> those = slotsOf(epoch);
            for (int from = 0; from < those.size(); from += 6) {
                int to = Math.min(from + 6, those.size());
                int[] r = row(generation, epoch, to == those.size() ? 1 : 0, to - from);
                for (int k = from; k < to; k++) {
                    r[4 + 2 * (k - from)] = those.get(k);
                    r[5 + 2 * (k - from)] = slots[those.get(k)].block;
                }
                all.add(r);
            }
            return all;
        }

        void close() {
            if (slotsOf(open).isEmpty()) {
                return;
            }
            while (closedEpochs().size() >= epochs) {
                landEpoch();
            }
            if (24 - place < records(open).size()) {
                changeHalves();
            }
            List<int[]> mine = records(open);
            for (int[] r : mine.subList(0, mine.size() - 1)) {
                put(flash, 25 * half + 1 + place++, r);
            }
            flush(flash);
            put(flash, 25 * half + 1 + place++, mine.get(mine.size() - 1));
            flush(flash);
            open++;
        }

        void changeHalves() {
            generation++;
            half = 1 - half;
            place = 0;
            for (int e : closedEpochs()) {
                for (int[] r : records(e)) {
                    put(flash, 25 * half + 1 + place++, r);
                }
            }
            flush(flash);
            put(flash, 25 * half, row(generation, disc.get(0)[0]));
            flush(flash);
        }

        int landEpoch() {
            if (closedEpochs().isEmpty()) {
                return 0;
            }
            int e = closedEpochs().first();
            TreeMap<Integer, Integer> slotOf = new TreeMap<>();
            for (int i : slotsOf(e)) {
                slotOf.put(slots[i].block, i);
            }
            int[] list = new int[16];
            int j = 0;
            for (int b : slotOf.keySet()) {
                put(disc, 3 + j, flash.get(50 + slotOf.get(b)));
                list[j++] = b;
            }
            put(disc, 2, list);
            flush(disc);
            put(disc, 1, row(1, e, slotOf.size()));
            flush(disc);
            for (int b : slotOf.keySet()) {
                put(disc, 19 + b, flash.get(50 + slotOf.get(b)));
            }
            flush(disc);
            put(disc, 1, row(0, e, 0));
            flush(disc);
            for (int i : slotOf.values()) {
                slots[i].epoch = 0;
            }
            for (int i : slotOf.values()) {
                int n = newest(slots[i].block);
                if (dirty(n)) {
                    slots[i] = new Slot();
                }
            }
            return e;
        }

        void flushVolume() {
            if (useFlash) {
                close();
            } else {
                flush(disc);
            }
        }

        // ---- the tree

        void loadTree() {
            memory = new TreeMap<>();
            for (int b = 29; b < 42; b++) {
                memory.put(b, peek(b));
            }
            for (int i = 0; i < 24; i++) {
                int indirect = node(i, 6);
                if (indirect != 0) {
                    memory.put(indirect, peek(indirect));
                }
                for (int k = 0; k < 20 && node(i, 0) == 1; k++) {
                    int b = blockOf(i, k);
                    if (b != 0) {
                        memory.put(b, peek(b));
                    }
                }
            }
        }

        int node(int i, int w) {
            return memory.get(30 + i / 2)[8 * (i % 2) + w];
        }

        void tell(int b, int w, int v) {
            memory.get(b)[w] = v;
            changed.add(b);
        }

        void tellNode(int i, int w, int v) {
            tell(30 + i / 2, 8 * (i % 2) + w, v);
        }

        int blockOf(int i, int k) {
            if (k < 4) {
                return node(i, 2 + k);
            }
            return node(i, 6) == 0 ? 0 : memory.get(node(i, 6))[k - 4];
        }

        boolean used(int b) {
            return (memory.get(29)[(b - 42) / 32] >> ((b - 42) % 32) & 1) == 1;
        }

        int unused() {
            int n = 0;
            for (int b = 42; b < 106; b++) {
                n += used(b) ? 0 : 1;
            }
            return n;
        }

        void flip(int b) {
            int w = (b - 42) / 32;
            tell(29, w, memory.get(29)[w] ^ 1 << ((b - 42) % 32));
        }

        int take() {
            int b = 42;
            while (used(b)) {
                b++;
            }
            flip(b);
            memory.put(b, new int[16]);
            changed.add(b);
            return b;
        }

        boolean newBlock(int i, int k) {
            boolean indirect = k >= 4 && node(i, 6) == 0;
            if (k >= 20 || unused() < (indirect ? 2 : 1)) {
                return false;
            }
            if (indirect) {
                tellNode(i, 6, take());
            }
            int b = take();
            if (k < 4) {
                tellNode(i, 2 + k, b);
            } else {
                tell(node(i, 6), k - 4, b);
            }
            return true;
        }

        boolean is(int i, int kind) {
            return i >= 0 && i < 24 && node(i, 0) == kind;
        }

        int at(int d, int p, int w) {
            return memory.get(blockOf(d, p / 8))[2 * (p % 8) + w];
        }

        void tellPlace(int d, int p, int name, int i) {
            tell(blockOf(d, p / 8), 2 * (p % 8), name);
            tell(blockOf(d, p / 8), 2 * (p % 8) + 1, i);
        }

        int placeOf(int d, int name) {
            for (int p = 0; p < node(d, 1); p++) {
                if (name >= 1 && at(d, p, 0) == name) {
                    return p;
                }
            }
            return -1;
        }

        int newPlace(int d) {
            int p = 0;
            while (p < node(d, 1) && at(d, p, 0) != 0) {
                p++;
            }
            if (p == node(d, 1)) {
                if (!newBlock(d, p / 8)) {
                    return -1;
                }
                tellNode(d, 1, p + 8);
            }
            return p;
        }

        void commit() {
            int n = changed.size();
            if (n == 0) {
                return;
            }
            if (29 - journalNext < n + 2) {
                bringHome();
            }
            int[] head = row(1, sequence, n);
            int j = 0;
            long code = 0;
            long four = 1;
            List<int[]> blocks = new ArrayList<>();
            for (int b : changed) {
                head[3 + j++] = b;
                int[] words = memory.get(b).clone();
                if (words[0] == 1 || words[0] == 2) {
                    code += four * words[0];
                    words[0] = 0;
                }
                four *= 4;
                blocks.add(words);
            }
            head[15] = (int) code;
            writeVolume(journalNext++, head);
            for (int[] words : blocks) {
                writeVolume(journalNext++, words);
            }
            flushVolume();
            writeVolume(journalNext++, row(2, sequence));
            flushVolume();
            sequence++;
            for (int b : changed) {
                kept.put(b, memory.get(b).clone());
            }
            changed.clear();
        }

        void bringHome() {
            if (kept.isEmpty()) {
                return;
            }
            for (int b : kept.keySet()) {
                writeVolume(b, kept.get(b));
            }
            flushVolume();
            writeVolume(0, row(sequence));
            flushVolume();
            kept.clear();
            journalNext = 1;
        }

        void ahead() {
            if (changed.size() > 7) {
                commit();
            }
        }

        int[] fileBlock(int b) {
            if (!changed.contains(b) && !kept.containsKey(b)) {
                memory.put(b, readVolume(b));
            }
            return memory.get(b);
        }

        // ---- the face

        int make(int d, int name, boolean dir) {
            if (!up) {
                return -9;
            }
            try {
                ahead();
            } catch (PowerGone e) {
                return -9;
            }
            if (!is(d, 1) || name < 1) {
                return -4;
            }
            if (placeOf(d, name) >= 0) {
                return -2;
            }
            for (int i = 0; i < 24; i++) {
                if (node(i, 0) == 0) {
                    int p = newPlace(d);
                    if (p < 0) {
                        return -3;
                    }
                    tellPlace(d, p, name, i);
                    tellNode(i, 0, dir ? 1 : 2);
                    return i;
                }
            }
            return -3;
        }

        int find(int d, int name) {
            if (!up) {
                return -9;
            }
            if (!is(d, 1)) {
                return -4;
            }
            return placeOf(d, name) < 0 ? -1 : at(d, placeOf(d, name), 1);
        }

        int write(int f, int p, int v) {
            if (!up) {
                return -9;
            }
            try {
                ahead();
                if (!is(f, 2) || p < 0 || p > 319) {
                    return -4;
                }
                if (blockOf(f, p / 16) == 0) {
                    if (!newBlock(f, p / 16)) {
                        return -3;
                    }
                } else {
                    fileBlock(blockOf(f, p / 16));
                }
            } catch (PowerGone e) {
                return -9;
            }
            tell(blockOf(f, p / 16), p % 16, v);
            if (node(f, 1) < p + 1) {
                tellNode(f, 1, p + 1);
            }
            return node(f, 1);
        }

        int read(int f, int p) {
            if (!up) {
                throw new IllegalStateException();
            }
            if (!is(f, 2) || p < 0 || p > 319) {
                throw new NoSuchElementException();
            }
            if (blockOf(f, p / 16) == 0) {
                return 0;
            }
            try {
                int[] words = fileBlock(blockOf(f, p / 16));
                return p < node(f, 1) ? words[p % 16] : 0;
            } catch (PowerGone e) {
                // told below
            }
            throw new IllegalStateException();
        }

        int cut(int f, int n) {
            if (!up) {
                return -9;
            }
            try {
                ahead();
                if (!is(f, 2) || n < 0 || n > node(f, 1)) {
                    return -4;
                }
                if (n == node(f, 1)) {
                    return 0;
                }
                if (n % 16 != 0 && blockOf(f, n / 16) != 0) {
                    fileBlock(blockOf(f, n / 16));
                    for (int w = n % 16; w < 16; w++) {
                        tell(blockOf(f, n / 16), w, 0);
                    }
                }
            } catch (PowerGone e) {
                return -9;
            }
            for (int k = 0; k < 20; k++) {
                int b = blockOf(f, k);
                if (b != 0 && 16 * k >= n) {
                    flip(b);
                    if (k < 4) {
                        tellNode(f, 2 + k, 0);
                    } else {
                        tell(node(f, 6), k - 4, 0);
                    }
                }
            }
            if (node(f, 6) != 0 && Arrays.equals(memory.get(node(f, 6)), new int[16])) {
                flip(node(f, 6));
                tellNode(f, 6, 0);
            }
            tellNode(f, 1, n);
            return 0;
        }

        int names(int d) {
            int n = 0;
            for (int p = 0; p < node(d, 1); p++) {
                n += at(d, p, 0) == 0 ? 0 : 1;
            }
            return n;
        }

        int remove(int d, int name) {
            if (!up) {
                return -9;
            }
            try {
                ahead();
            } catch (PowerGone e) {
                return -9;
            }
            if (!is(d, 1)) {
                return -4;
            }
            int p = placeOf(d, name);
            if (p < 0) {
                return -1;
            }
            int i = at(d, p, 1);
            if (is(i, 1) && names(i) > 0) {
                return -3;
            }
            for (int k = 0; k < 20; k++) {
                if (blockOf(i, k) != 0) {
                    flip(blockOf(i, k));
                }
            }
            if (node(i, 6) != 0) {
                flip(node(i, 6));
            }
            for (int w = 0; w < 8; w++) {
                tellNode(i, w, 0);
            }
            tellPlace(d, p, 0, 0);
            return 0;
        }

        boolean below(int top, int what) {
            if (top == what) {
                return true;
            }
            for (int p = 0; p < node(top, 1); p++) {
                if (at(top, p, 0) != 0 && is(at(top, p, 1), 1) && below(at(top, p, 1), what)) {
                    return true;
                }
            }
            return false;
        }

        int move(int d, int name, int to, int other) {
            if (!up) {
                return -9;
            }
            try {
                ahead();
            } catch (PowerGone e) {
                return -9;
            }
            if (!is(d, 1) || !is(to, 1) || other < 1) {
                return -4;
            }
            int p = placeOf(d, name);
            if (p < 0) {
                return -1;
            }
            if (placeOf(to, other) >= 0) {
                return -2;
            }
            int i = at(d, p, 1);
            if (is(i, 1) && below(i, to)) {
                return -4;
            }
            int q = newPlace(to);
            if (q < 0) {
                return -3;
            }
            tellPlace(to, q, other, i);
            tellPlace(d, p, 0, 0);
            return 0;
        }

        int inode(int i, int what) {
            if (!up || i < 0 || i > 23 || what < 0 || what > 3) {
                return -1;
            }
            if (what == 2) {
                return is(i, 1) ? names(i) : 0;
            }
            if (what == 3) {
                int n = node(i, 6) == 0 ? 0 : 1;
                for (int k = 0; k < 20; k++) {
                    n += blockOf(i, k) == 0 ? 0 : 1;
                }
                return n;
            }
            return node(i, what);
        }

        int entry(int d, int p, int what) {
            if (!up || !is(d, 1) || p < 0 || p >= node(d, 1) || what < 0 || what > 1) {
                return -1;
            }
            return at(d, p, what);
        }

        int greatestClosed() {
            return useFlash ? open - 1 : landed();
        }

        int sync() {
            if (!up) {
                return -9;
            }
            try {
                commit();
            } catch (PowerGone e) {
                return -9;
            }
            return greatestClosed();
        }

        int land() {
            if (!up) {
                return -9;
            }
            try {
                return useFlash ? landEpoch() : 0;
            } catch (PowerGone e) {
                return -9;
            }
        }

        int home() {
            if (!up) {
                return -9;
            }
            try {
                commit();
                int n = kept.size();
                bringHome();
                return n;
            } catch (PowerGone e) {
                return -9;
            }
        }

        boolean limit(int n, long mask) {
            if (!up || n < 1 || n > 1000) {
                return false;
            }
            limited = true;
            actsLeft = n;
            limitMask = mask;
            return true;
        }

        boolean crash(long mask) {
            if (!up) {
                return false;
            }
            powerGoes(mask);
            return true;
        }

        boolean lose(long mask) {
            flash.stable.clear();
            flash.pending.clear();
            if (up) {
                powerGoes(mask);
            }
            return true;
        }

        int halfThatCounts() {
            int id = disc.get(0)[0];
            int[] zero = flash.get(0);
            int[] one = flash.get(25);
            if (zero[1] == id && one[1] == id) {
                return zero[0] > one[0] ? 0 : 1;
            }
            return zero[1] == id ? 0 : one[1] == id ? 1 : -1;
        }

        int mount(boolean withFlash, int n, long mask) {
            if (up || withFlash && halfThatCounts() < 0) {
                return -1;
            }
            limited = n > 0;
            actsLeft = n;
            limitMask = mask;
            try {
                mountAll(withFlash);
            } catch (PowerGone e) {
                return -9;
            }
            up = true;
            return greatestClosed();
        }

        void mountAll(boolean withFlash) {
            int[] head = disc.get(1);
            if (head[0] == 1) {
                int[] list = disc.get(2);
                for (int j = 0; j < head[2]; j++) {
                    put(disc, 19 + list[j], disc.get(3 + j));
                }
                flush(disc);
                put(disc, 1, row(0, head[1], 0));
                flush(disc);
            }
            useFlash = withFlash;
            if (withFlash) {
                mountFlash();
            } else {
                put(disc, 0, row(disc.get(0)[0] + 1));
                flush(disc);
            }
            sequence = peek(0)[0];
            kept.clear();
            changed.clear();
            journalNext = 1;
            int at = 1;
            while (at <= 28) {
                int[] head2 = peek(at);
                int n = head2[2];
                if (head2[0] != 1 || head2[1] != sequence || n < 1 || n > 12 || at + n + 1 > 28) {
                    break;
                }
                int[] end = peek(at + n + 1);
                if (end[0] != 2 || end[1] != sequence) {
                    break;
                }
                int code = head2[15];
                for (int j = 0; j < n; j++) {
                    int[] words = peek(at + 1 + j);
                    words[0] = code % 4 == 0 ? words[0] : code % 4;
                    code /= 4;
                    kept.put(head2[3 + j], words);
                }
                sequence++;
                at += n + 2;
            }
            bringHome();
            loadTree();
        }

        void mountFlash() {
            half = halfThatCounts();
            generation = flash.get(25 * half)[0];
            freeAllSlots();
            TreeSet<Integer> closed = new TreeSet<>();
            for (int p = 0; p < 24; p++) {
                int[] r = flash.get(25 * half + 1 + p);
                if (r[0] == generation && r[1] > landed() && r[2] == 1) {
                    closed.add(r[1]);
                }
            }
            for (int p = 0; p < 24; p++) {
                int[] r = flash.get(25 * half + 1 + p);
                if (r[0] == generation && closed.contains(r[1])) {
                    for (int j = 0; j < r[3]; j++) {
                        slots[r[4 + 2 * j]].block = r[5 + 2 * j];
                        slots[r[4 + 2 * j]].epoch = r[1];
                    }
                }
            }
            open = (closed.isEmpty() ? landed() : closed.last()) + 1;
            changeHalves();
        }

        int attach() {
            if (!up) {
                return -9;
            }
            if (useFlash) {
                return -4;
            }
            try {
                flash.stable.clear();
                int id = disc.get(0)[0] + 1;
                put(flash, 0, row(1, id));
                flush(flash);
                put(disc, 0, row(id));
                flush(disc);
            } catch (PowerGone e) {
                return -9;
            }
            freeAllSlots();
            half = 0;
            generation = 1;
            place = 0;
            open = landed() + 1;
            useFlash = true;
            return 0;
        }

        int slot(int i, int what) {
            if (!up || !useFlash || i < 0 || i >= slots.length) {
                return -1;
            }
            switch (what) {
                case 0: return slots[i].block < 0 ? 0 : dirty(i) ? 2 : 1;
                case 1: return slots[i].block;
                case 2: return slots[i].epoch;
                case 3: return slots[i].mark ? 1 : 0;
                case 4: return hand[i / ways] == i ? 1 : 0;
                default: return -1;
            }
        }

        int word(int device, int b, int w, boolean stable) {
            Dev d = device == 0 ? disc : device == 1 ? flash : null;
            if (d == null || b < 0 || b >= d.blocks || w < 0 || w > 15) {
                return Integer.MIN_VALUE;
            }
            return stable ? d.stableBlock(b)[w] : d.get(b)[w];
        }

        int count(int what) {
            if (what >= 3 && what <= 5 && (!up || !useFlash) || what >= 6 && what <= 11 && !up) {
                return -1;
            }
            switch (what) {
                case 0: return up ? 1 : 0;
                case 1: return up && useFlash ? 1 : 0;
                case 2: return landed();
                case 3: return open;
                case 4: return closedEpochs().size();
                case 5: return slotsOf(open).size();
                case 6: return sequence;
                case 7: return changed.size();
                case 8: return kept.size();
                case 9: return 29 - journalNext;
                case 10: return usedInodes();
                case 11: return 64 - unused();
                case 12: return disc.pending.size();
                case 13: return flash.pending.size();
                case 14: return disc.writes;
                case 15: return flash.writes;
                case 16: return disc.flushes;
                case 17: return flash.flushes;
                default: return -1;
            }
        }

        int usedInodes() {
            int n = 0;
            for (int i = 0; i < 24; i++) {
                n += node(i, 0) == 0 ? 0 : 1;
            }
            return n;
        }
    }
}
