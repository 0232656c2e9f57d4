import java.util.LinkedHashMap;
import java.util.Map;
import java.util.function.Consumer;

/** What sure, from and blind have told once is told anew behind changes, in whatever order these come. */
public final class ChangesTest {
    private final Due due = new Due();
    private final Scene scene = new Scene(due, ChangesTest::singByAllSigns);
    private final Map<String, Consumer<CanoeMaster>> changes = new LinkedHashMap<>();

    private ChangesTest() {
        changes.put("sea(5, 4)", x -> x.sea(5, 4));
        changes.put("sea(4, 4)", x -> x.sea(4, 4));
        changes.put("land(12, 0)", x -> x.land(12, 0));
        changes.put("land(7, -1)", x -> x.land(7, -1));
        changes.put("swell(11, 3)", x -> x.swell(11, 3));
        changes.put("drifts(2, 8)", x -> x.drifts(2, 1 << 3));
        changes.put("watches(0, 0)", x -> x.watches(0, 0));
        changes.put("chant()", x -> Texts.chant(x, "steer 1 for 1;"));
        changes.put("begin(4)", x -> x.begin(1L << 2));
        changes.put("steer(1, 4)", x -> x.steer(1, 4));
        changes.put("see(0, 2)", x -> x.see(0, 2));
    }

    public static void main(String[] args) {
        ChangesTest test = new ChangesTest();
        test.changes.keySet().forEach(test::oneChange);
        for (String first : test.changes.keySet()) {
            test.changes.keySet().forEach(second -> test.twoChanges(first, second));
        }
        test.due.finish();
    }

    private static void singByAllSigns(CanoeMaster x) {
        x.end(0);
        Texts.chant(x, "steer 1 until star 1 for 3; steer 3 until swell 3 for 3; steer 8 until birds for 9;"
            + "steer 4 for 2; steer 7 for 4;");
    }

    private static String judged(CanoeMaster x) {
        StringBuilder s = new StringBuilder("sure:");
        for (int what = 0; what <= 2; what++) {
            s.append(' ').append(x.sure(what));
        }
        s.append(" from:");
        for (int cell = 0; cell < x.look(0) * x.look(1); cell++) {
            s.append(' ').append(x.from(cell));
        }
        s.append(" blind: ").append(x.blind(0));
        for (int i = 0; i < 12; i++) {
            s.append(' ').append(x.blind(10 + i));
        }
        return s.append('\n').toString();
    }

    /** Without this the pairs could agree because nothing had changed. */
    private void oneChange(String name) {
        CanoeMaster x = scene.made();
        String before = judged(x);
        changes.get(name).accept(x);
        due.is("19, 20, 22: " + name + " changes what is told", judged(x).equals(before), false);
    }

    private void twoChanges(String first, String second) {
        CanoeMaster asked = scene.made();
        judged(asked);
        changes.get(first).accept(asked);
        changes.get(second).accept(asked);
        CanoeMaster unasked = scene.made();
        changes.get(first).accept(unasked);
        changes.get(second).accept(unasked);
        due.is("19, 20, 22: asked before " + first + " and " + second, judged(asked), judged(unasked));
    }
}
