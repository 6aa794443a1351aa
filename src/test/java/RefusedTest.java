import java.util.function.Supplier;
import java.util.function.ToLongFunction;

/**
 * Promises 2 to 19: a call that is refused, or that has nothing to do, leaves all as it was. One object gets the
 * call, another one does not: all that can be asked of both is the same then, and all that later calls answer.
 */
public final class RefusedTest extends Check {
    private static final int[] NO_INODES = {MIN, -24, -1, 24, 25, MAX};

    private static Supplier<Twin> before;
    private static ToLongFunction<Twin> later;

    public static void main(String[] args) {
        before = RefusedTest::withFlash;
        later = RefusedTest::goOnWithFlash;
        treeCalls("with the flash");
        devicesWithFlash();
        before = RefusedTest::withoutFlash;
        later = RefusedTest::goOnWithoutFlash;
        treeCalls("without the flash");
        devicesWithoutFlash();
        before = RefusedTest::withoutInodes;
        later = RefusedTest::goOnWithFlash;
        noInodes();
        before = RefusedTest::withoutBlocks;
        later = RefusedTest::goOnWithFlash;
        noBlocks();
        before = RefusedTest::downWithFlash;
        later = RefusedTest::mountWithFlash;
        whileDown("down");
        before = RefusedTest::downWithoutFlash;
        later = RefusedTest::mountWithoutFlash;
        whileDown("down, the flash is lost");
        noFlashToMount();
        end("what is refused changes nothing");
    }

    /** Files 1 (names 5 in the root), 3 (5 in 2), directories 2 (6 in the root), 4 (7 in 2, empty). */
    private static Twin tree() {
        Twin v = new Twin(2, 3, 2);
        v.make(0, 5, false);
        v.make(0, 6, true);
        v.make(2, 5, false);
        v.make(2, 7, true);
        v.write(1, 0, 11);
        v.write(1, 40, 12);
        v.write(3, 64, 13);
        v.home();
        return v;
    }

    /** Something is kept, something changed, a slot's write is pending, and there is a limit. */
    private static Twin withFlash() {
        Twin v = tree();
        v.write(1, 1, 14);
        v.sync();
        v.land();
        v.read(1, 40);
        v.write(1, 2, 15);
        counts(v, 7, 1, 1);
        due("closed", v.count(4), 1);
        due("pending", v.count(13), 1);
        v.limit(30, 0x5555555555555555L);
        return v;
    }

    private static Twin withoutFlash() {
        Twin v = tree();
        landAll(v);
        v.crash(0);
        v.mount(false, 0, 0);
        v.write(1, 1, 14);
        v.sync();
        v.write(1, 2, 15);
        counts(v, 7, 1, 1);
        v.limit(5, 0x5555555555555555L);
        return v;
    }

    private static Twin withoutInodes() {
        Twin v = tree();
        for (int i = 5; i < 24; i++) {
            v.make(2, 100 + i, i % 2 == 0);
        }
        v.home();
        v.write(1, 2, 15);
        v.limit(30, 3);
        return v;
    }

    /** The root has 8 names, 4 is empty, and no block is left. */
    private static Twin withoutBlocks() {
        Twin v = tree();
        for (int name = 11; name <= 16; name++) {
            v.make(0, name, false);
        }
        for (int f = 5; f <= 8; f++) {
            for (int k = 0; k < 20; k++) {
                v.write(f, 16 * k, f);
            }
        }
        due("count(11)", v.count(11), 64);
        due("inode(0, 2)", v.inode(0, 2), 8);
        v.home();
        v.write(1, 2, 15);
        v.limit(30, 3);
        return v;
    }

    private static Twin downWithFlash() {
        Twin v = withFlash();
        v.crash(1);
        return v;
    }

    private static Twin downWithoutFlash() {
        Twin v = withFlash();
        v.lose(1);
        return v;
    }

    /** The answers of calls that go on, as one number. */
    private static long answers(long... those) {
        long all = 7;
        for (long one : those) {
            all = all * 1000003 + one;
        }
        return all;
    }

    private static long goOnWithFlash(Twin v) {
        return answers(v.land(), v.write(3, 65, 9), v.read(1, 40), v.sync(), v.make(4, 9, true), v.home(), v.land(),
            v.mount(true, 0, 0), v.read(3, 64), v.sync(), v.home());
    }

    private static long goOnWithoutFlash(Twin v) {
        return answers(v.write(3, 65, 9), v.read(1, 40), v.sync(), v.home(), v.mount(false, 0, 0), v.read(3, 64), v.sync(), v.attach());
    }

    private static long mountWithFlash(Twin v) {
        return answers(v.mount(true, 9, 5), v.mount(true, 0, 0), v.read(3, 64), v.make(4, 9, true), v.sync(), v.home());
    }

    private static long mountWithoutFlash(Twin v) {
        return answers(v.mount(false, 2, 1), v.mount(false, 0, 0), v.read(3, 64), v.make(4, 9, true), v.sync(), v.attach(), v.home());
    }

    private static void refused(String call, ToLongFunction<Twin> op, long want) {
        Twin with = before.get();
        Twin without = before.get();
        due(call, op.applyAsLong(with), want);
        sameState(call, with, without);
        due("behind " + call + ": what later calls answer", later.applyAsLong(with), later.applyAsLong(without));
        sameState(call + " and later calls", with, without);
    }

    private static void treeCalls(String where) {
        part = "2, make is refused, " + where;
        makes();
        part = "3, find, " + where;
        finds();
        part = "4, write is refused, " + where;
        writes();
        part = "5, read is refused, " + where;
        reads();
        part = "6, cut is refused, " + where;
        cuts();
        part = "7, remove is refused, " + where;
        removes();
        part = "8, move is refused, " + where;
        moves();
        part = "9 and 10, inode and entry, " + where;
        questions();
    }

    private static void makes() {
        for (int i : NO_INODES) {
            refused("make(" + i + ", 9, true)", v -> v.make(i, 9, true), WRONG);
        }
        for (int i : new int[] {1, 3, 5, 23}) {
            refused("make(" + i + ", 9, false)", v -> v.make(i, 9, false), WRONG);
        }
        for (int name : new int[] {0, -1, MIN}) {
            refused("make(0, " + name + ", true)", v -> v.make(0, name, true), WRONG);
        }
        refused("make(0, 5, true)", v -> v.make(0, 5, true), THERE);
        refused("make(2, 7, false)", v -> v.make(2, 7, false), THERE);
        // no such directory, though the name is wrong too; a wrong name, though there is none such
        refused("make(1, 0, true)", v -> v.make(1, 0, true), WRONG);
    }

    private static void finds() {
        for (int i : NO_INODES) {
            refused("find(" + i + ", 5)", v -> v.find(i, 5), WRONG);
        }
        for (int i : new int[] {1, 3, 5, 23}) {
            refused("find(" + i + ", 5)", v -> v.find(i, 5), WRONG);
        }
        for (int name : new int[] {7, 4, MAX, 0, -1, MIN}) {
            refused("find(0, " + name + ")", v -> v.find(0, name), NONE);
        }
        refused("find(4, 0), an empty directory", v -> v.find(4, 0), NONE);
        refused("find(4, 7), an empty directory", v -> v.find(4, 7), NONE);
    }

    private static void writes() {
        for (int i : NO_INODES) {
            refused("write(" + i + ", 0, 1)", v -> v.write(i, 0, 1), WRONG);
        }
        for (int i : new int[] {0, 2, 4, 5, 23}) {
            refused("write(" + i + ", 0, 1)", v -> v.write(i, 0, 1), WRONG);
        }
        for (int place : new int[] {MIN, -16, -1, 320, 336, MAX}) {
            refused("write(1, " + place + ", 1)", v -> v.write(1, place, 1), WRONG);
        }
    }

    private static void reads() {
        for (int i : NO_INODES) {
            refused("read(" + i + ", 0)", v -> v.read(i, 0), NO_SUCH);
        }
        for (int i : new int[] {0, 2, 4, 5, 23}) {
            refused("read(" + i + ", 0)", v -> v.read(i, 0), NO_SUCH);
        }
        for (int place : new int[] {MIN, -16, -1, 320, 336, MAX}) {
            refused("read(3, " + place + ")", v -> v.read(3, place), NO_SUCH);
        }
        // changed, and not there: neither is READ
        refused("read(1, 2)", v -> v.read(1, 2), 15);
        refused("read(1, 16)", v -> v.read(1, 16), 0);
        refused("read(1, 319)", v -> v.read(1, 319), 0);
    }

    private static void cuts() {
        for (int i : NO_INODES) {
            refused("cut(" + i + ", 0)", v -> v.cut(i, 0), WRONG);
        }
        for (int i : new int[] {0, 2, 4, 5, 23}) {
            refused("cut(" + i + ", 0)", v -> v.cut(i, 0), WRONG);
        }
        for (int n : new int[] {MIN, -1, 42, 320, MAX}) {
            refused("cut(1, " + n + ")", v -> v.cut(1, n), WRONG);
        }
        refused("cut(1, 41), its size", v -> v.cut(1, 41), 0);
        refused("cut(3, 65), its size", v -> v.cut(3, 65), 0);
        refused("cut(3, 66)", v -> v.cut(3, 66), WRONG);
    }

    private static void removes() {
        for (int i : NO_INODES) {
            refused("remove(" + i + ", 5)", v -> v.remove(i, 5), WRONG);
        }
        for (int i : new int[] {1, 3, 5, 23}) {
            refused("remove(" + i + ", 5)", v -> v.remove(i, 5), WRONG);
        }
        for (int name : new int[] {7, MAX, 0, -1, MIN}) {
            refused("remove(0, " + name + ")", v -> v.remove(0, name), NONE);
        }
        refused("remove(4, 0)", v -> v.remove(4, 0), NONE);
        refused("remove(0, 6)", v -> v.remove(0, 6), FULL);
    }

    private static void moves() {
        for (int i : NO_INODES) {
            refused("move(" + i + ", 5, 0, 9)", v -> v.move(i, 5, 0, 9), WRONG);
            refused("move(0, 5, " + i + ", 9)", v -> v.move(0, 5, i, 9), WRONG);
        }
        for (int i : new int[] {1, 3, 5, 23}) {
            refused("move(" + i + ", 5, 0, 9)", v -> v.move(i, 5, 0, 9), WRONG);
            refused("move(0, 5, " + i + ", 9)", v -> v.move(0, 5, i, 9), WRONG);
        }
        for (int other : new int[] {0, -1, MIN}) {
            refused("move(0, 5, 2, " + other + ")", v -> v.move(0, 5, 2, other), WRONG);
            refused("move(0, 9, 2, " + other + ")", v -> v.move(0, 9, 2, other), WRONG);
        }
        for (int name : new int[] {7, MAX, 0, -1, MIN}) {
            refused("move(0, " + name + ", 2, 9)", v -> v.move(0, name, 2, 9), NONE);
            refused("move(0, " + name + ", 2, 5)", v -> v.move(0, name, 2, 5), NONE);
        }
        refused("move(0, 5, 0, 5)", v -> v.move(0, 5, 0, 5), THERE);
        refused("move(0, 5, 0, 6)", v -> v.move(0, 5, 0, 6), THERE);
        refused("move(0, 5, 2, 5)", v -> v.move(0, 5, 2, 5), THERE);
        refused("move(0, 6, 2, 5), below itself, but the name is there", v -> v.move(0, 6, 2, 5), THERE);
        refused("move(0, 6, 2, 9), in itself", v -> v.move(0, 6, 2, 9), WRONG);
        refused("move(0, 6, 4, 9), below itself", v -> v.move(0, 6, 4, 9), WRONG);
    }

    private static void questions() {
        for (int i : NO_INODES) {
            refused("inode(" + i + ", 0)", v -> v.inode(i, 0), NONE);
            refused("entry(" + i + ", 0, 0)", v -> v.entry(i, 0, 0), NONE);
        }
        for (int what : new int[] {MIN, -1, 4, MAX}) {
            refused("inode(0, " + what + ")", v -> v.inode(0, what), NONE);
        }
        for (int what : new int[] {MIN, -1, 2, MAX}) {
            refused("entry(0, 0, " + what + ")", v -> v.entry(0, 0, what), NONE);
        }
        for (int p : new int[] {MIN, -1, 8, 160, MAX}) {
            refused("entry(0, " + p + ", 0)", v -> v.entry(0, p, 0), NONE);
        }
        refused("entry(1, 0, 0), a file", v -> v.entry(1, 0, 0), NONE);
        refused("entry(4, 0, 0), no place", v -> v.entry(4, 0, 0), NONE);
        refused("entry(23, 0, 0), free", v -> v.entry(23, 0, 0), NONE);
    }

    private static void limitsAndMounts() {
        for (int n : new int[] {MIN, -1, 0, 1001, MAX}) {
            refused("limit(" + n + ", -1)", v -> v.limit(n, -1) ? 1 : 0, 0);
        }
        for (int n : new int[] {MIN, 0, 1, MAX}) {
            refused("mount(true, " + n + ", -1)", v -> v.mount(true, n, -1), NONE);
            refused("mount(false, " + n + ", -1)", v -> v.mount(false, n, -1), NONE);
        }
    }

    private static void devicesWithFlash() {
        part = "14 and 17, limit and mount are refused, with the flash";
        limitsAndMounts();
        part = "18, attach is refused";
        refused("attach()", Twin::attach, WRONG);
        part = "19 and 21, slot and count, with the flash";
        for (int i : new int[] {MIN, -1, 6, 64, MAX}) {
            refused("slot(" + i + ", 0)", v -> v.slot(i, 0), NONE);
        }
        for (int what : new int[] {MIN, -1, 5, MAX}) {
            refused("slot(0, " + what + ")", v -> v.slot(0, what), NONE);
        }
        for (int what : new int[] {MIN, -1, 18, MAX}) {
            refused("count(" + what + ")", v -> v.count(what), NONE);
        }
        part = "11, 12 and 13: nothing is changed, closed or kept";
        before = RefusedTest::nothingToDo;
        refused("sync()", Twin::sync, nothingToDo().count(2));
        refused("land()", Twin::land, 0);
        refused("home()", Twin::home, 0);
    }

    private static Twin nothingToDo() {
        Twin v = tree();
        landAll(v);
        v.crash(0);
        v.mount(true, 0, 0);
        v.read(1, 40);
        due("pending", v.count(13), 1);
        v.limit(3, 1);
        return v;
    }

    private static void devicesWithoutFlash() {
        part = "14 and 17, limit and mount are refused, without the flash";
        limitsAndMounts();
        part = "12, land without the flash";
        refused("land()", Twin::land, 0);
        part = "19 and 21, slot and count, without the flash";
        for (int what = -1; what <= 5; what++) {
            int asked = what;
            refused("slot(0, " + what + ")", v -> v.slot(0, asked), NONE);
        }
        for (int what : new int[] {3, 4, 5, -1, 18}) {
            refused("count(" + what + ")", v -> v.count(what), NONE);
        }
    }

    private static void noInodes() {
        part = "2, make is FULL: no inode";
        due("count(10)", before.get().count(10), 24);
        refused("make(0, 9, true)", v -> v.make(0, 9, true), FULL);
        refused("make(4, 9, false), which has no block yet", v -> v.make(4, 9, false), FULL);
        refused("make(0, 5, true)", v -> v.make(0, 5, true), THERE);
        refused("make(0, 0, true)", v -> v.make(0, 0, true), WRONG);
        refused("make(1, 9, true)", v -> v.make(1, 9, true), WRONG);
    }

    private static void noBlocks() {
        part = "2, make is FULL: no block";
        refused("make(0, 9, true)", v -> v.make(0, 9, true), FULL);
        refused("make(4, 9, false)", v -> v.make(4, 9, false), FULL);
        refused("make(0, 16, false)", v -> v.make(0, 16, false), THERE);
        part = "4, write is FULL";
        refused("write(1, 16, 1)", v -> v.write(1, 16, 1), FULL);
        refused("write(1, 319, 1), the indirect one is wanted, too", v -> v.write(1, 319, 1), FULL);
        refused("write(3, 80, 1), the indirect one is there", v -> v.write(3, 80, 1), FULL);
        refused("write(1, 320, 1)", v -> v.write(1, 320, 1), WRONG);
        part = "8, move is FULL";
        refused("move(0, 5, 0, 9)", v -> v.move(0, 5, 0, 9), FULL);
        refused("move(0, 5, 4, 9)", v -> v.move(0, 5, 4, 9), FULL);
        refused("move(0, 6, 4, 9), below itself", v -> v.move(0, 6, 4, 9), WRONG);
        refused("move(0, 5, 0, 6)", v -> v.move(0, 5, 0, 6), THERE);
    }

    private static void whileDown(String where) {
        part = "2 to 19, while it is " + where;
        refused("make(0, 9, true)", v -> v.make(0, 9, true), DOWN);
        refused("make(-1, 0, true)", v -> v.make(-1, 0, true), DOWN);
        refused("find(0, 5)", v -> v.find(0, 5), DOWN);
        refused("find(-1, 5)", v -> v.find(-1, 5), DOWN);
        refused("write(1, 0, 1)", v -> v.write(1, 0, 1), DOWN);
        refused("write(1, 320, 1)", v -> v.write(1, 320, 1), DOWN);
        refused("read(1, 0)", v -> v.read(1, 0), ILLEGAL_STATE);
        refused("read(-1, -1)", v -> v.read(-1, -1), ILLEGAL_STATE);
        refused("cut(1, 0)", v -> v.cut(1, 0), DOWN);
        refused("cut(1, -1)", v -> v.cut(1, -1), DOWN);
        refused("remove(0, 5)", v -> v.remove(0, 5), DOWN);
        refused("remove(1, 5)", v -> v.remove(1, 5), DOWN);
        refused("move(0, 5, 0, 9)", v -> v.move(0, 5, 0, 9), DOWN);
        refused("move(0, 5, 0, 0)", v -> v.move(0, 5, 0, 0), DOWN);
        refused("inode(0, 0)", v -> v.inode(0, 0), NONE);
        refused("entry(0, 0, 0)", v -> v.entry(0, 0, 0), NONE);
        refused("sync()", Twin::sync, DOWN);
        refused("land()", Twin::land, DOWN);
        refused("home()", Twin::home, DOWN);
        refused("limit(1, 0)", v -> v.limit(1, 0) ? 1 : 0, 0);
        refused("limit(1000, -1)", v -> v.limit(1000, -1) ? 1 : 0, 0);
        refused("crash(-1)", v -> v.crash(-1) ? 1 : 0, 0);
        refused("attach()", Twin::attach, DOWN);
        refused("slot(0, 0)", v -> v.slot(0, 0), NONE);
        for (int what = 3; what <= 11; what++) {
            int asked = what;
            refused("count(" + what + ")", v -> v.count(asked), NONE);
        }
    }

    private static void noFlashToMount() {
        part = "17: the flash is to be used, and can't";
        for (int n : new int[] {MIN, 0, 1, 1000, MAX}) {
            refused("mount(true, " + n + ", -1)", v -> v.mount(true, n, -1), NONE);
        }
        refused("lose(-1), again", v -> v.lose(-1) ? 1 : 0, 1);
    }
}
