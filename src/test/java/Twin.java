import java.util.ArrayList;
import java.util.List;
import java.util.NoSuchElementException;
import java.util.function.ToLongFunction;

/**
 * An EpochVolume of which a test may ask as much as it likes, though an object answers only 512 calls: what may
 * change something goes to one object, what only asks goes to another one, which is made anew by the same
 * changes when its calls are used up. Both must answer the changes alike.
 */
final class Twin {
    static final int CALLS = 512;
    /** What a read that throws counts as. */
    static final long ILLEGAL_STATE = 1L << 40, NO_SUCH = 1L << 41;

    private final int sets;
    private final int ways;
    private final int epochs;
    private final List<ToLongFunction<EpochVolume>> changes = new ArrayList<>();
    private final EpochVolume changed;
    private EpochVolume asked;
    private int askedCalls;

    Twin(int sets, int ways, int epochs) {
        this.sets = sets;
        this.ways = ways;
        this.epochs = epochs;
        changed = new EpochVolume(sets, ways, epochs);
        asked = new EpochVolume(sets, ways, epochs);
    }

    /** Another one that got the same changes. */
    Twin copy() {
        Twin other = new Twin(sets, ways, epochs);
        for (ToLongFunction<EpochVolume> change : changes) {
            other.change(change);
        }
        return other;
    }

    /** How many changes it still takes. */
    int left() {
        return CALLS - changes.size();
    }

    private long change(ToLongFunction<EpochVolume> call) {
        if (changes.size() == CALLS) {
            throw new AssertionError("a test makes more than 512 calls of an object");
        }
        changes.add(call);
        long answer = call.applyAsLong(changed);
        if (askedCalls < CALLS) {
            askedCalls++;
            if (call.applyAsLong(asked) != answer) {
                throw new AssertionError("the same calls were answered otherwise, behind questions that change nothing");
            }
        }
        return answer;
    }

    private int ask(ToLongFunction<EpochVolume> call) {
        if (askedCalls == CALLS) {
            asked = new EpochVolume(sets, ways, epochs);
            for (ToLongFunction<EpochVolume> change : changes) {
                change.applyAsLong(asked);
            }
            askedCalls = changes.size();
        }
        if (askedCalls == CALLS) {
            throw new AssertionError("a test makes more than 512 calls of an object");
        }
        askedCalls++;
        return (int) call.applyAsLong(asked);
    }

    int make(int directory, int name, boolean isDirectory) {
        return (int) change(v -> v.make(directory, name, isDirectory));
    }

    int find(int directory, int name) {
        return ask(v -> v.find(directory, name));
    }

    int write(int file, int place, int value) {
        return (int) change(v -> v.write(file, place, value));
    }

    long read(int file, int place) {
        return change(v -> readOf(v, file, place));
    }

    static long readOf(EpochVolume v, int file, int place) {
        try {
            return v.read(file, place);
        } catch (IllegalStateException e) {
            return ILLEGAL_STATE;
        } catch (NoSuchElementException e) {
            return NO_SUCH;
        }
    }

    int cut(int file, int n) {
        return (int) change(v -> v.cut(file, n));
    }

    int remove(int directory, int name) {
        return (int) change(v -> v.remove(directory, name));
    }

    int move(int directory, int name, int to, int other) {
        return (int) change(v -> v.move(directory, name, to, other));
    }

    int inode(int i, int what) {
        return ask(v -> v.inode(i, what));
    }

    int entry(int directory, int p, int what) {
        return ask(v -> v.entry(directory, p, what));
    }

    int sync() {
        return (int) change(EpochVolume::sync);
    }

    int land() {
        return (int) change(EpochVolume::land);
    }

    int home() {
        return (int) change(EpochVolume::home);
    }

    boolean limit(int n, long mask) {
        return change(v -> v.limit(n, mask) ? 1 : 0) == 1;
    }

    boolean crash(long mask) {
        return change(v -> v.crash(mask) ? 1 : 0) == 1;
    }

    boolean lose(long mask) {
        return change(v -> v.lose(mask) ? 1 : 0) == 1;
    }

    int mount(boolean flash, int n, long mask) {
        return (int) change(v -> v.mount(flash, n, mask));
    }

    int attach() {
        return (int) change(EpochVolume::attach);
    }

    int slot(int i, int what) {
        return ask(v -> v.slot(i, what));
    }

    int word(int device, int b, int w, boolean stable) {
        return ask(v -> v.word(device, b, w, stable));
    }

    int count(int what) {
        return ask(v -> v.count(what));
    }
}
