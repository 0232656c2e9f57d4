/** The calls that README.md shows under Use, with the answers that it tells. */
public final class ReadmeTest {
    private final Due due = new Due();
    private final CanoeMaster x = new CanoeMaster();

    public static void main(String[] args) {
        ReadmeTest test = new ReadmeTest();
        test.blindRow();
        test.trueCanoe();
        test.chantOfOneLine();
        test.due.finish();
    }

    private void blindRow() {
        due.is("land(0, 1)", x.land(0, 1), true);
        due.is("blind(0)", x.blind(0), 3);
        due.is("blind(10)", x.blind(10), 0);
        due.is("steer(0, 4)", x.steer(0, 4), 9);
    }

    private void trueCanoe() {
        due.is("watches(0, 2)", x.watches(0, 0b000010), true);
        due.is("put(5)", x.put(5), true);
        due.is("sights()", x.sights(), 4);
        due.is("reckoned()", x.reckoned(), 0x33);
    }

    private void chantOfOneLine() {
        due.is("feed", x.feed(0x73746565, 0x72203020, 0x666f7220, 0x323b2020, 0x20202020), 20);
        due.is("end(14)", x.end(14), 14);
        due.is("chant()", x.chant(), 1);
        due.is("sure(0)", x.sure(0), 1);
        due.is("from(15)", x.from(15), -1);
        due.is("sings(0)", x.sings(0), 0);
    }
}
