/** Counts and prints the calls whose answer is not the one that is due. */
final class Due {
    private int wrong = 0;

    void is(String call, long got, long want) {
        if (got != want) {
            wrong++;
            System.out.println(call + " answered " + got + ", due is " + want);
        }
    }

    void is(String call, boolean got, boolean want) {
        is(call, got ? 1 : 0, want ? 1 : 0);
    }

    void is(String call, String got, String want) {
        if (!got.equals(want)) {
            wrong++;
            System.out.println(call + ": told is\n" + got + "due is\n" + want);
        }
    }

    /** The fault of a text, 0 and NONE if it has none, and its place. */
    void faultOf(String text, int fault, int place) {
        CanoeMaster x = new CanoeMaster();
        String told = "'" + text + "': ";
        is(told + "chant() of a fault", Texts.chant(x, text) == CanoeMaster.NONE, fault != 0);
        is(told + "fault(0)", x.fault(0), fault);
        is(told + "fault(1)", x.fault(1), place);
    }

    int wrong() {
        return wrong;
    }

    void finish() {
        System.out.println(wrong == 0 ? "all answers are as due" : wrong + " answers are not as due");
        System.exit(wrong == 0 ? 0 : 1);
    }
}
