import java.util.function.Supplier;
import java.util.function.ToIntFunction;

/** What the tests of the boundary cases share: a call that is refused must leave all as it was. */
abstract class Boundaries extends Checks {
    static final int[] FAR = {Integer.MIN_VALUE, Integer.MIN_VALUE + 1, -65536, -256, 256, 65536, Integer.MAX_VALUE - 1, Integer.MAX_VALUE};

    /** A desk on which much was done, with room for more of everything. */
    static HiddenDrawers busy() {
        HiddenDrawers x = desk("232", "when 0 b=1;with 1 to 2 set 2 to 1;open a=1 and tilt=1;stops at=6;do 3;");
        act(x, 3);
        x.hollow(5);
        x.image();
        tell(x, "do 15;");
        x.hollow(7);
        x.tried(3, 1);
        act(x, 1, 14, 5);
        fill(x, "do 3;do 14;sound 4;");
        return x;
    }

    /** A desk that has as much of everything as there can be. */
    static HiddenDrawers full() {
        HiddenDrawers x = desk("232323", "when 0 b=1;open a=1 and f=2;do 3;");
        tell(x, "do 99;");
        for (int i = 1; i < 4; i++) tell(x, "sound " + i + ";do " + i + ";");
        for (int i = 0; i < 10; i++) x.hollow(9 * i + 1);
        x.image();
        for (int i = 0; i < 12; i++) x.tried(i, i % 2);
        for (int i = 0; i < 31; i++) x.act(i % 2 == 0 ? 3 : 2);
        fill(x, times(300, ";"));
        return x;
    }

    /** Asked of a desk twice: once behind the call, once without it. */
    static void changesNothing(String what, Supplier<HiddenDrawers> maker, ToIntFunction<HiddenDrawers> call, int want) {
        HiddenDrawers x = maker.get();
        due(what, call.applyAsInt(x), want);
        due("all behind " + what, whole(x), whole(maker.get()));
    }

    static void changesNothing(String what, ToIntFunction<HiddenDrawers> call, int want) {
        changesNothing(what, Boundaries::busy, call, want);
    }

    /** All that can be asked of a desk, its steps, its tape and its image too. It is used up by that. */
    static String whole(HiddenDrawers x) {
        StringBuilder all = new StringBuilder(shown(x));
        for (int i = 0; i < 31; i++) {
            all.append(x.undo()).append(x.place(0)).append(x.place(1)).append(x.now(0)).append(x.now(1)).append(' ');
        }
        int text = x.text();
        all.append(text).append(x.fault(0)).append(x.fault(1)).append(x.played(text)).append(x.about(3));
        x.back();
        return all.append(' ').append(shown(x)).toString();
    }

    static String shown(HiddenDrawers x) {
        StringBuilder all = new StringBuilder();
        for (int what = 0; what <= 6; what++) all.append(x.about(what)).append(' ');
        for (int part = 0; part < 6; part++) all.append(x.about(10 + part)).append(':').append(x.place(part)).append(' ');
        for (int hollow = 0; hollow < 10; hollow++) all.append(x.about(20 + hollow)).append(' ');
        for (int what = 0; what <= 2; what++) all.append(x.now(what)).append(' ');
        for (int act = 0; act < 15; act++) all.append(x.can(act) ? 1 : 0);
        all.append(' ').append(x.fault(0)).append(' ').append(x.fault(1)).append(' ').append(x.fewest(NONE));
        return all.append(' ').append(x.forever()).append(' ').append(x.fits()).append(' ').append(x.next()).append('|').toString();
    }
}
