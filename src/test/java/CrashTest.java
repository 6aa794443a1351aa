import java.util.ArrayList;
import java.util.List;
import java.util.Random;
import java.util.TreeMap;

/**
 * The power goes at random acts with random masks (seeds are fixed). Mounted with the flash the tree must be
 * as it was last committed, or as the call that was cut off would have committed it; without the flash it must
 * be as some commit left it. What the tree should be is kept as plain maps, without any device.
 */
public final class CrashTest {
    private static int wrong = 0;

    public static void main(String[] args) {
        for (long seed = 0; seed < 3000 && wrong == 0; seed++) {
            new Run(seed).go();
        }
        System.out.println(wrong == 0 ? "every crash left a committed tree" : "a crash left something else");
        if (wrong != 0) {
            System.exit(1);
        }
    }

    /** A tree in plain maps: directories by inode, files by inode. */
    static final class Plain {
        final TreeMap<Integer, TreeMap<Integer, Integer>> directories = new TreeMap<>();
        final TreeMap<Integer, TreeMap<Integer, Integer>> files = new TreeMap<>();
        final TreeMap<Integer, Integer> sizes = new TreeMap<>();

        Plain() {
            directories.put(0, new TreeMap<>());
        }

        @Override
        public String toString() {
            return directories + " " + files + " " + sizes;
        }
    }

    static final class Run {
        final long seed;
        final Random random;
        final Twin v;
        Plain plain = new Plain();
        /** The trees that were committed, the latest one last. */
        final List<String> committed = new ArrayList<>();
        int sequence = 1;

        Run(long seed) {
            this.seed = seed;
            random = new Random(seed);
            v = new Twin(1 + random.nextInt(8), 2 + random.nextInt(7), 1 + random.nextInt(8));
            committed.add(plain.toString());
        }

        void fail(String what) {
            wrong++;
            System.out.println("seed " + seed + ": " + what);
        }

        void go() {
            for (int n = 0; n < 60 && wrong == 0; n++) {
                if (random.nextInt(9) == 0) {
                    v.limit(1 + random.nextInt(50), random.nextLong());
                }
                String before = plain.toString();
                boolean held = change();
                if (!held) {
                    recover(before);
                } else if (v.count(6) != sequence) {
                    sequence = v.count(6);
                    committed.add(before);
                }
            }
        }

        /** One call; false if the power went. */
        boolean change() {
            int r = random.nextInt(20);
            int name = 1 + random.nextInt(9);
            int d = pick(new ArrayList<>(plain.directories.keySet()));
            int f = plain.files.isEmpty() ? 0 : pick(new ArrayList<>(plain.files.keySet()));
            if (r < 4) {
                boolean dir = random.nextInt(3) == 0;
                return made(v.make(d, name, dir), d, name, dir);
            } else if (r < 12 && f > 0) {
                int place = random.nextInt(random.nextBoolean() ? 40 : 320);
                int value = random.nextInt(4);
                return wrote(v.write(f, place, value), f, place, value);
            } else if (r < 13 && f > 0) {
                int n = random.nextInt(plain.sizes.get(f) + 1);
                return shortened(v.cut(f, n), f, n);
            } else if (r < 14) {
                return removed(v.remove(d, name), d, name);
            } else if (r < 16) {
                int to = pick(new ArrayList<>(plain.directories.keySet()));
                int other = 1 + random.nextInt(9);
                return moved(v.move(d, name, to, other), d, name, to, other);
            } else if (r < 18) {
                return v.sync() != Check.DOWN;
            } else if (r < 19) {
                return v.land() != Check.DOWN;
            }
            return v.home() != Check.DOWN;
        }

        int pick(List<Integer> those) {
            return those.get(random.nextInt(those.size()));
        }

        boolean made(int answer, int d, int name, boolean dir) {
            if (answer >= 0) {
                plain.directories.get(d).put(name, answer);
                if (dir) {
                    plain.directories.put(answer, new TreeMap<>());
                } else {
                    plain.files.put(answer, new TreeMap<>());
                    plain.sizes.put(answer, 0);
                }
            }
            return answer != Check.DOWN;
        }

        boolean wrote(int answer, int f, int place, int value) {
            if (answer >= 0) {
                put(f, place, value);
                plain.sizes.put(f, Math.max(plain.sizes.get(f), place + 1));
                if (answer != plain.sizes.get(f)) {
                    fail("write answered " + answer + ", the size is " + plain.sizes.get(f));
                }
            }
            return answer != Check.DOWN;
        }

        void put(int f, int place, int value) {
            if (value == 0) {
                plain.files.get(f).remove(place);
            } else {
                plain.files.get(f).put(place, value);
            }
        }

        boolean shortened(int answer, int f, int n) {
            if (answer == 0) {
                plain.files.get(f).tailMap(n, true).clear();
                plain.sizes.put(f, n);
            }
            return answer != Check.DOWN;
        }

        boolean removed(int answer, int d, int name) {
            if (answer == 0) {
                int i = plain.directories.get(d).remove(name);
                plain.directories.remove(i);
                plain.files.remove(i);
                plain.sizes.remove(i);
            }
            return answer != Check.DOWN;
        }

        boolean moved(int answer, int d, int name, int to, int other) {
            if (answer == 0) {
                int i = plain.directories.get(d).remove(name);
                plain.directories.get(to).put(other, i);
            }
            return answer != Check.DOWN;
        }

        void recover(String before) {
            boolean lost = random.nextInt(4) == 0;
            if (lost) {
                v.lose(0);
            }
            int answer = Check.DOWN;
            for (int n = 0; n < 100 && answer == Check.DOWN; n++) {
                answer = v.mount(!lost, random.nextInt(3) == 0 ? 0 : 1 + random.nextInt(40), random.nextLong());
                if (answer >= 0) {
                    v.crash(random.nextLong());
                    answer = v.mount(!lost, 0, 0);
                }
            }
            if (answer < 0) {
                fail("it was not mounted: " + answer);
                return;
            }
            plain = look();
            String now = plain.toString();
            int at = committed.lastIndexOf(now);
            boolean latest = at == committed.size() - 1 || now.equals(before);
            if (lost ? at < 0 && !now.equals(before) : !latest) {
                fail("behind a crash it is " + now + ", committed was " + committed.get(committed.size() - 1) + ", told was " + before);
            }
            committed.add(now);
            sequence = v.count(6);
            if (lost && random.nextBoolean() && v.attach() != 0) {
                fail("a new flash was not attached");
            }
            if (lost && v.count(1) == 0) {
                v.crash(-1);
                v.mount(false, 0, 0);
                v.attach();
            }
        }

        Plain look() {
            Plain p = new Plain();
            p.directories.clear();
            int blocks = 0;
            for (int i = 0; i < 24; i++) {
                blocks += v.inode(i, 3);
                if (v.inode(i, 0) == 1) {
                    TreeMap<Integer, Integer> names = new TreeMap<>();
                    for (int q = 0; q < v.inode(i, 1); q++) {
                        if (v.entry(i, q, 0) != 0) {
                            names.put(v.entry(i, q, 0), v.entry(i, q, 1));
                        }
                    }
                    p.directories.put(i, names);
                } else if (v.inode(i, 0) == 2) {
                    p.files.put(i, intsOf(i));
                    p.sizes.put(i, v.inode(i, 1));
                }
            }
            if (blocks != v.count(11)) {
                fail("inodes have " + blocks + " blocks, used are " + v.count(11));
            }
            return p;
        }

        /** Read from copies, as a file's reads are more than the object's calls allow. */
        TreeMap<Integer, Integer> intsOf(int file) {
            TreeMap<Integer, Integer> ints = new TreeMap<>();
            Twin copy = v.copy();
            for (int q = 0; q < 320; q++) {
                if (copy.left() == 0) {
                    copy = v.copy();
                }
                long x = copy.read(file, q);
                if (x != 0) {
                    ints.put(q, (int) x);
                }
            }
            return ints;
        }
    }
}
