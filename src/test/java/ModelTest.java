/** Long runs of calls, the same each time, whose answers are compared with those of the plain model. */
public final class ModelTest {
    private static final int RUNS = 300;
    private static final int CALLS = 500;

    private long seed;
    private CanoeMaster x;
    private PlainModel m;
    private final Due due = new Due();
    private final StringBuilder text = new StringBuilder();
    private final int[] blindAnswers = new int[16];
    private final int[] faultAnswers = new int[4];
    private int sureLandings = 0;

    public static void main(String[] args) {
        ModelTest test = new ModelTest();
        for (int run = 0; run < RUNS && test.due.wrong() == 0; run++) {
            test.go(run);
        }
        test.checkThatRunsReachMuch();
        test.due.finish();
    }

    private void checkThatRunsReachMuch() {
        for (int i = 0; i < faultAnswers.length; i++) {
            due.is("fault " + i + " came up", faultAnswers[i] > 0, true);
        }
        for (int i = 0; i < 8; i++) {
            due.is("blind(0) answered " + (i - 2), blindAnswers[i] > 0, true);
        }
        due.is("chants landed surely", sureLandings > 100, true);
    }

    private int any(int n) {
        seed = seed * 6364136223846793005L + 1442695040888963407L;
        return (int) ((seed >>> 33) % n);
    }

    private void go(int run) {
        seed = 77L * run + 5;
        x = new CanoeMaster();
        m = new PlainModel();
        int widest = 2 + run % 7;
        for (int call = 0; call < CALLS && due.wrong() == 0; call++) {
            change(widest);
            compareState();
        }
        if (due.wrong() > 0) {
            System.out.println("in run " + run);
        }
    }

    private int driftSet() {
        switch (any(4)) {
            case 0: return 1 << any(9);
            case 1: return 1 << any(9) | 1 << any(9);
            case 2: return 16;
            default: return any(12) == 0 ? any(514) - 1 : 16 | 1 << any(9);
        }
    }

    private void change(int widest) {
        int a;
        int b;
        switch (any(30)) {
            case 0:
                if (any(6) == 0) {
                    a = any(widest + 1) + any(2);
                    b = any(widest + 1) + any(2);
                    due.is("sea(" + a + ", " + b + ")", x.sea(a, b), m.sea(a, b));
                }
                break;
            case 1: case 2:
                a = any(m.look(0) * m.look(1) + 2) - 1;
                b = any(3) == 0 ? -1 : any(6) - 1;
                due.is("land(" + a + ", " + b + ")", x.land(a, b), m.land(a, b));
                break;
            case 3: case 4:
                a = any(m.look(0) * m.look(1) + 2) - 1;
                b = any(6) - 1;
                due.is("swell(" + a + ", " + b + ")", x.swell(a, b), m.swell(a, b));
                break;
            case 5:
                a = any(8) - 1;
                b = driftSet();
                due.is("drifts(" + a + ", " + b + ")", x.drifts(a, b), m.drifts(a, b));
                break;
            case 6:
                a = any(67) - 1;
                b = any(67) - 1;
                due.is("watches(" + a + ", " + b + ")", x.watches(a, b), m.watches(a, b));
                break;
            case 7: case 8:
                long set = 0;
                for (int i = any(5); i >= 0; i--) {
                    set |= 1L << any(Math.min(64, m.look(0) * m.look(1) + (any(8) == 0 ? 1 : 0)));
                }
                set = any(5) == 0 ? -1L >>> (64 - m.look(0) * m.look(1)) : set;
                due.is("begin(" + set + ")", x.begin(set), m.begin(set));
                break;
            case 9: case 10: case 11:
                a = any(m.look(0) * m.look(1) + 2) - 1;
                due.is("put(" + a + ")", x.put(a), m.put(a));
                break;
            case 12: case 13: case 14: case 15: case 16:
                a = any(11) - 1;
                b = any(3) == 0 ? any(11) - 1 : Integer.numberOfTrailingZeros(m.look(10 + m.look(2) % 6));
                due.is("steer(" + a + ", " + b + ")", x.steer(a, b), m.steer(a, b));
                break;
            case 17: case 18:
                a = any(5) - 1;
                b = any(6) - 1;
                due.is("see(" + a + ", " + b + ")", x.see(a, b), m.see(a, b));
                break;
            case 19:
                due.is("sights()", x.sights(), m.sights());
                break;
            case 20: case 21:
                writeAnything();
                break;
            default:
                ask();
        }
    }

    private void ask() {
        int a = any(5) - 1;
        switch (any(6)) {
            case 0:
                due.is("sure(" + a + ")", x.sure(a), m.sure(a));
                sureLandings += m.sure(0) > 0 ? 1 : 0;
                break;
            case 1:
                int cell = any(m.look(0) * m.look(1) + 2) - 1;
                due.is("from(" + cell + ")", x.from(cell), m.from(cell));
                break;
            case 2:
                int line = any(m.look(6) + 2) - 1;
                due.is("sings(" + line + ")", x.sings(line), m.sings(line));
                break;
            case 3:
                int what = any(40) == 0 ? any(26) : 0;
                int told = m.blind(what);
                due.is("blind(" + what + ")", x.blind(what), told);
                blindAnswers[what == 0 ? told + 2 : 15]++;
                for (int i = 10; i < 10 + told && what == 0; i++) {
                    due.is("blind(" + i + ")", x.blind(i), m.blind(i));
                }
                break;
            case 4:
                int at = any(m.look(0) * m.look(1) + 2) - 1;
                int watch = any(8) - 1;
                due.is("sign(" + at + ", " + watch + ", " + a + ")", x.sign(at, watch, a), m.sign(at, watch, a));
                break;
            default:
                due.is("fault(" + a + ")", x.fault(a), m.fault(a));
        }
    }

    private void writeAnything() {
        text.setLength(0);
        int lines = any(10) == 0 ? 11 + any(3) : any(5);
        for (int i = 0; i < lines; i++) {
            writeLine(lines > 9);
        }
        for (int harm = any(5) - 3; harm > 0 && text.length() > 0; harm--) {
            text.setCharAt(any(text.length()), (char) (any(2) == 0 ? any(256) : "09 s;\nr".charAt(any(7))));
        }
        int cut = any(6) == 0 ? any(text.length() + 1) : text.length();
        for (int from = 0; from < text.length(); from += 20) {
            due.is("feed", x.feed(word(from), word(from + 4), word(from + 8), word(from + 12), word(from + 16)),
                m.feed(word(from), word(from + 4), word(from + 8), word(from + 12), word(from + 16)));
        }
        due.is("end(" + cut + ")", x.end(cut), m.end(cut));
        due.is("chant() of " + text.substring(0, Math.min(cut, text.length())), x.chant(), m.chant());
        due.is("fault(0)", x.fault(0), m.fault(0));
        due.is("fault(1)", x.fault(1), m.fault(1));
        faultAnswers[m.fault(0)]++;
    }

    private int word(int from) {
        return Texts.word(text, from);
    }

    private void writeLine(boolean tight) {
        String gap = tight || any(3) == 0 ? "" : any(4) == 0 ? "\n  " : " ";
        text.append("steer").append(gap).append(any(40) == 0 ? any(120) : any(9)).append(gap);
        int sign = any(5);
        if (sign == 0 && !tight) {
            text.append("until").append(gap.isEmpty() ? " " : gap).append("birds").append(gap.isEmpty() ? " " : gap);
        } else if (sign == 1) {
            text.append("until ").append("swell").append(gap).append(any(40) == 0 ? any(120) : any(4)).append(gap);
        } else if (sign == 2) {
            text.append("until ").append("star").append(gap).append(any(40) == 0 ? any(120) : any(4)).append(gap);
        }
        text.append("for").append(gap).append(any(40) == 0 ? any(30) : 1 + any(20)).append(gap).append(";");
    }

    private void compareState() {
        due.is("reckoned()", x.reckoned(), m.reckoned());
        for (int what = -1; what < 20; what++) {
            due.is("look(" + what + ")", x.look(what), m.look(what));
        }
        int cell = any(70) - 2;
        due.is("look(100 + " + cell + ")", x.look(100 + cell), m.look(100 + cell));
        due.is("look(200 + " + cell + ")", x.look(200 + cell), m.look(200 + cell));
    }
}
