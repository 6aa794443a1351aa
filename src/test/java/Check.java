import java.util.ArrayList;
import java.util.List;

/** What the tests have in common: how an answer that is not due is told, and all of a state that can be asked. */
class Check {
    static final int NONE = -1, THERE = -2, FULL = -3, WRONG = -4, DOWN = -9;
    static final int NO_WORD = Integer.MIN_VALUE;
    static final int MIN = Integer.MIN_VALUE, MAX = Integer.MAX_VALUE;
    static final int DISC = 0, FLASH = 1;
    static final long ILLEGAL_STATE = Twin.ILLEGAL_STATE, NO_SUCH = Twin.NO_SUCH;

    /** The promise, or the part of the document, that is looked at. */
    static String part = "";
    static int wrong = 0;

    static void due(String call, long got, long want) {
        if (got != want) {
            wrong++;
            System.out.println(part + ": " + call + " answered " + got + ", due is " + want);
        }
    }

    static void due(String call, boolean got, boolean want) {
        due(call, got ? 1 : 0, want ? 1 : 0);
    }

    /** The last thing that a test does. */
    static void end(String whenAllIsDue) {
        System.out.println(wrong == 0 ? whenAllIsDue : wrong + " answers are not as due");
        if (wrong != 0) {
            System.exit(1);
        }
    }

    /** The first words of a block, as it is stable; all others are 0. */
    static void block(Twin v, int device, int b, int... words) {
        for (int w = 0; w < 16; w++) {
            due("word(" + device + ", " + b + ", " + w + ", true)", v.word(device, b, w, true), w < words.length ? words[w] : 0);
        }
    }

    static void counts(Twin v, int from, int... want) {
        for (int k = 0; k < want.length; k++) {
            due("count(" + (from + k) + ")", v.count(from + k), want[k]);
        }
    }

    /** Kind, block, epoch, mark of a slot, whether the hand is on it. */
    static void slotIs(Twin v, int i, int... want) {
        for (int what = 0; what < want.length; what++) {
            due("slot(" + i + ", " + what + ")", v.slot(i, what), want[what]);
        }
    }

    /** The acts of both devices that were done. */
    static int acts(Twin v) {
        return v.count(14) + v.count(15) + v.count(16) + v.count(17);
    }

    static void landAll(Twin v) {
        for (int n = 0; n < 20 && v.land() > 0; n++) {
            due("count(0)", v.count(0), 1);
        }
    }

    static Twin big() {
        return new Twin(8, 8, 8);
    }

    /** File 1, name 3, with one int 5, all on the disc, which is mounted without the flash. */
    static Twin onDisc() {
        Twin v = big();
        v.make(0, 3, false);
        v.write(1, 0, 5);
        v.home();
        landAll(v);
        v.crash(0);
        due("mount(false, 0, 0)", v.mount(false, 0, 0), 4);
        return v;
    }

    /** Files 1 to 4 in the root; 1 to 3 have all their blocks, none is left. */
    static Twin fullOfBlocks() {
        Twin v = big();
        for (int f = 1; f <= 4; f++) {
            due("make", v.make(0, f, false), f);
        }
        for (int f = 1; f <= 3; f++) {
            for (int k = 0; k < 20; k++) {
                due("write", v.write(f, 16 * k, 1), 16 * k + 1);
            }
        }
        due("count(11)", v.count(11), 64);
        return v;
    }

    /** All that can be asked without changing anything; texts[i] tells what the i-th number is. */
    static int[] state(Twin v, List<String> texts) {
        List<Integer> all = new ArrayList<>();
        for (int what = 0; what < 18; what++) {
            note(all, texts, v.count(what), "count", what);
        }
        for (int i = 0; i < 64; i++) {
            for (int what = 0; what < 5; what++) {
                note(all, texts, v.slot(i, what), "slot", i, what);
            }
        }
        for (int i = 0; i < 24; i++) {
            for (int what = 0; what < 4; what++) {
                note(all, texts, v.inode(i, what), "inode", i, what);
            }
            for (int p = 0; p < v.inode(i, 1) && v.inode(i, 0) == 1; p++) {
                note(all, texts, v.entry(i, p, 0), "entry", i, p, 0);
                note(all, texts, v.entry(i, p, 1), "entry", i, p, 1);
            }
        }
        for (int device = 0; device < 2; device++) {
            for (int b = 0; b < 125; b++) {
                for (int w = 0; w < 16; w++) {
                    note(all, texts, v.word(device, b, w, false), "word", device, b, w, 0);
                    note(all, texts, v.word(device, b, w, true), "word", device, b, w, 1);
                }
            }
        }
        return all.stream().mapToInt(Integer::intValue).toArray();
    }

    private static void note(List<Integer> all, List<String> texts, int answer, String call, int... arguments) {
        all.add(answer);
        if (texts != null) {
            texts.add(call + java.util.Arrays.toString(arguments));
        }
    }

    /** All that can be asked of both is the same. */
    static void sameState(String call, Twin got, Twin want) {
        int[] a = state(got, null);
        int[] b = state(want, null);
        if (java.util.Arrays.equals(a, b)) {
            return;
        }
        List<String> texts = new ArrayList<>();
        state(want, texts);
        for (int i = 0; i < Math.min(a.length, b.length); i++) {
            due("behind " + call + ": " + texts.get(i), a[i], b[i]);
        }
        due("behind " + call + ": how much can be asked", a.length, b.length);
    }
}
