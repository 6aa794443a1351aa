/** README.md: its example, call by call. */
public final class ReadmeTest extends Check {
    public static void main(String[] args) {
        part = "README.md";
        EpochVolume v = new EpochVolume(2, 4, 2);
        int file = v.make(0, 5, false);
        due("make(0, 5, false)", file, 1);
        due("write(1, 0, 42)", v.write(file, 0, 42), 1);
        v.sync();
        v.write(file, 0, 43);
        due("crash(0)", v.crash(0), true);
        due("read(1, 0), down", Twin.readOf(v, file, 0), ILLEGAL_STATE);
        due("mount(true, 0, 0)", v.mount(true, 0, 0) >= 0, true);
        due("read(1, 0), committed", v.read(file, 0), 42);
        v.home();
        int landed = 0;
        while (v.land() > 0) {
            landed++;
        }
        due("an epoch landed", landed > 0, true);
        due("lose(0)", v.lose(0), true);
        due("mount(true, 0, 0), a new flash", v.mount(true, 0, 0), NONE);
        due("mount(false, 0, 0)", v.mount(false, 0, 0) >= 0, true);
        due("read(1, 0), from the disc", v.read(file, 0), 42);
        due("attach()", v.attach(), 0);
        due("count(1)", v.count(1), 1);
        end("the README's example holds");
    }
}
