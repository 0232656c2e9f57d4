import java.util.function.Consumer;
import java.util.function.Predicate;
import java.util.function.ToLongFunction;

/** An object in which all is set to something of its own, so that a call that should do nothing can't do it unseen. */
final class Scene {
    /** What is not a cell of the scene; the last ones would be one, were they shifts or wrapped around. */
    static final int[] NO_CELLS = {-1, 20, 21, 63, 64, Integer.MIN_VALUE, Integer.MAX_VALUE, 72, -56, 264};

    private final Due due;
    private final Consumer<CanoeMaster> also;

    Scene(Due due) {
        this(due, x -> { });
    }

    Scene(Due due, Consumer<CanoeMaster> also) {
        this.due = due;
        this.also = also;
    }

    /** W 5, H 4, HOUR 2; cells 1, 6, 7, 8, 12 and 13 are reckoned, 7 and 18 are land, the true canoe is in 8. */
    CanoeMaster made() {
        CanoeMaster x = new CanoeMaster();
        x.sea(5, 4);
        setSea(x);
        x.begin(1L | 1L << 6 | 1L << 7);
        x.put(6);
        x.steer(8, 5);
        x.steer(4, 1);
        setTexts(x);
        also.accept(x);
        return x;
    }

    private static void setSea(CanoeMaster x) {
        x.land(7, 1);
        x.land(18, 0);
        x.swell(3, 1);
        x.swell(8, 2);
        x.swell(12, 3);
        x.swell(13, 2);
        int[] drifts = {1 << 4 | 1 << 5, 1 << 1 | 1 << 4, 1 << 4 | 1 << 7, 1 << 3, 1 << 4, 1};
        for (int watch = 0; watch < 6; watch++) {
            x.drifts(watch, drifts[watch]);
        }
        x.watches(0b001110, 0b010111);
    }

    /** A chant of two lines, fault 2 at place 6, and a tape of 20 bytes. */
    static void setTexts(CanoeMaster x) {
        Texts.chant(x, "steer 3 until swell 3 for 2; steer 1 until birds for 20;");
        Texts.chant(x, "steer 9 for 1;");
        Texts.write(x, "steer 5 for 20; \n\n  ");
    }

    void refuses(String call, Predicate<CanoeMaster> asked) {
        changesNothing(call, x -> asked.test(x) ? 1 : 0, 0);
    }

    /** The answer is the one that is due, and all that can be told is what an object tells that was never asked. */
    void changesNothing(String call, ToLongFunction<CanoeMaster> asked, long answer) {
        CanoeMaster x = made();
        due.is(call, asked.applyAsLong(x), answer);
        due.is(call + ": what stays", told(x), told(made()));
    }

    /** All that can be told of an object, what it does from then on among it: it is not for further use. */
    static String told(CanoeMaster x) {
        StringBuilder s = new StringBuilder();
        tellSea(x, s);
        tellReckoned(x, s);
        tellChant(x, s);
        tellTape(x, s);
        tellHours(x, s);
        return s.toString();
    }

    private static void tellSea(CanoeMaster x, StringBuilder s) {
        int cells = x.look(0) * x.look(1);
        s.append("look:");
        for (int what = 0; what < 16; what++) {
            s.append(' ').append(x.look(what));
        }
        s.append("\nreach, swell, star, birds:");
        for (int cell = 0; cell < cells; cell++) {
            s.append(' ').append(x.look(100 + cell)).append(',').append(x.look(200 + cell)).append(',');
            s.append(x.sign(cell, 1, 1)).append(',').append(x.sign(cell, 1, 2));
        }
        s.append('\n');
    }

    private static void tellReckoned(CanoeMaster x, StringBuilder s) {
        s.append("reckoned: ").append(x.reckoned());
        s.append(" blind: ").append(x.blind(0)).append(' ').append(x.blind(10)).append('\n');
    }

    private static void tellChant(CanoeMaster x, StringBuilder s) {
        int cells = x.look(0) * x.look(1);
        s.append("lines, sings, sure: ").append(x.look(6)).append(' ').append(x.sings(0)).append(' ').append(x.sings(1));
        s.append(' ').append(x.sure(0)).append(' ').append(x.sure(1)).append(' ').append(x.sure(2));
        s.append(" from:");
        for (int cell = 0; cell < cells; cell += 3) {
            s.append(' ').append(x.from(cell));
        }
        s.append('\n');
    }

    private static void tellTape(CanoeMaster x, StringBuilder s) {
        s.append("fault: ").append(x.fault(0)).append(' ').append(x.fault(1));
        s.append(" tape: ").append(x.end(400)).append(' ').append(x.feed(0x20202020, 0x20202020, 0x0a0a0a0a, 0x20202020, 0x20202020));
        s.append(" chant: ").append(x.chant()).append(' ').append(x.fault(0)).append(' ').append(x.fault(1)).append('\n');
        tellChant(x, s);
    }

    private static void tellHours(CanoeMaster x, StringBuilder s) {
        s.append("steer:");
        for (int way = 2; way < 8; way++) {
            int drift = Integer.numberOfTrailingZeros(x.look(10 + x.look(2) % 6));
            s.append(' ').append(x.steer(way, drift)).append(',').append(x.reckoned()).append(',').append(x.look(5));
        }
        s.append(" sights: ").append(x.sights()).append(' ').append(x.reckoned()).append('\n');
    }
}
