/** Each promise of the document by its number: ordinary inputs, the edges that it names, wrong inputs. */
public final class PromisesTest {
    private static final int MIN = Integer.MIN_VALUE;
    private static final int MAX = Integer.MAX_VALUE;

    private final Due due = new Due();

    public static void main(String[] args) {
        PromisesTest test = new PromisesTest();
        test.newObject();
        test.sea();
        test.land();
        test.swell();
        test.drifts();
        test.watches();
        test.look();
        test.reckoned();
        test.begin();
        test.put();
        test.steer();
        test.steerClamps();
        test.sign();
        test.signOfBirds();
        test.see();
        test.sights();
        test.feed();
        test.end();
        test.chant();
        test.fault();
        test.faultPlaces();
        test.thirteenthLine();
        test.sure();
        test.sureByDrifts();
        test.sureByWatches();
        test.from();
        test.sings();
        test.blind();
        test.blindTwelve();
        test.blindSpent();
        test.blindAtTheEdgeOfSpent();
        test.blindBehindTwelveHours();
        test.blindAfterChanges();
        test.due.finish();
    }

    private void newObject() {
        CanoeMaster x = new CanoeMaster();
        int[] first = {4, 4, 0, 16, 0, -1, 0, 0, 0, -2, 16, 16, 16, 16, 16, 16, -2};
        for (int what = 0; what < first.length; what++) {
            due.is("1: look(" + what + ")", x.look(what), first[what]);
        }
        for (int cell = 0; cell < 16; cell++) {
            due.is("1: look(100 + cell)", x.look(100 + cell), -1);
            due.is("1: look(200 + cell)", x.look(200 + cell), 0);
        }
        due.is("1: reckoned()", x.reckoned(), 0xffffL);
        due.is("1: end(0): the tape is empty", x.end(1), -1);
        due.is("1: fault(0)", x.fault(0), 0);
        due.is("1: fault(1)", x.fault(1), -1);
        due.is("1: NONE", CanoeMaster.NONE, -1);
    }

    private void sea() {
        CanoeMaster x = new CanoeMaster();
        Texts.chant(x, "steer 1 for 2;");
        x.land(3, 2);
        x.swell(3, 2);
        x.drifts(3, 3);
        x.watches(5, 6);
        x.put(3);
        x.steer(4, 4);
        int[][] wrong = {{1, 4}, {4, 1}, {9, 4}, {4, 9}, {0, 0}, {-4, 4}, {4, -4}, {MIN, MAX}};
        for (int[] side : wrong) {
            due.is("2: sea(" + side[0] + ", " + side[1] + ")", x.sea(side[0], side[1]), false);
        }
        due.is("2: a refused sea does nothing", x.look(0) == 4 && x.look(2) == 1 && x.look(5) == 3 && x.look(103) == 2, true);
        x.feed(1, 2, 3, 4, 5);
        due.is("2: sea(5, 3)", x.sea(5, 3), true);
        int[] first = {5, 3, 0, 15, 0, -1, 1, 0, 0, -2, 16, 16, 16, 16, 16, 16};
        for (int what = 0; what < first.length; what++) {
            due.is("2: look(" + what + ")", x.look(what), first[what]);
        }
        due.is("2: look(103)", x.look(103), -1);
        due.is("2: look(203)", x.look(203), 0);
        due.is("2: reckoned()", x.reckoned(), 0x7fffL);
        due.is("2: the tape stays", x.end(20), 20);
        due.is("2: sea(2, 2)", x.sea(2, 2), true);
        due.is("2: reckoned()", x.reckoned(), 15L);
        due.is("2: sea(8, 8)", x.sea(8, 8), true);
        due.is("2: reckoned()", x.reckoned(), -1L);
        due.is("2: sea(8, 2)", x.sea(8, 2), true);
        due.is("2: sea(2, 8)", x.sea(2, 8), true);
        due.is("2: look(1)", x.look(1), 8);
    }

    private void land() {
        CanoeMaster x = new CanoeMaster();
        int[][] wrong = {{16, 0}, {-1, 0}, {0, 4}, {0, -2}, {MIN, 0}, {MAX, 0}, {0, MAX}, {0, MIN}, {100, 1}};
        for (int[] w : wrong) {
            due.is("3: land(" + w[0] + ", " + w[1] + ")", x.land(w[0], w[1]), false);
        }
        due.is("3: look(4)", x.look(4), 0);
        for (int reach = 0; reach <= 3; reach++) {
            due.is("3: land(15, " + reach + ")", x.land(15, reach), true);
            due.is("3: look(115)", x.look(115), reach);
        }
        due.is("3: look(4)", x.look(4), 1);
        due.is("3: land(15, 4)", x.land(15, 4), false);
        due.is("3: look(115)", x.look(115), 3);
        due.is("3: land(15, -1)", x.land(15, -1), true);
        due.is("3: land(14, -1), which was none", x.land(14, -1), true);
        due.is("3: look(115)", x.look(115), -1);
        due.is("3: look(4)", x.look(4), 0);
    }

    private void swell() {
        CanoeMaster x = new CanoeMaster();
        int[][] wrong = {{16, 0}, {-1, 0}, {0, 4}, {0, -1}, {MIN, 0}, {MAX, 0}, {0, MAX}, {0, MIN}};
        x.swell(0, 1);
        for (int[] w : wrong) {
            due.is("4: swell(" + w[0] + ", " + w[1] + ")", x.swell(w[0], w[1]), false);
        }
        due.is("4: look(200)", x.look(200), 1);
        for (int v = 3; v >= 0; v--) {
            due.is("4: swell(15, " + v + ")", x.swell(15, v), true);
            due.is("4: look(215)", x.look(215), v);
        }
    }

    private void drifts() {
        CanoeMaster x = new CanoeMaster();
        int[][] wrong = {{6, 16}, {-1, 16}, {0, 0}, {0, 512}, {0, -1}, {MIN, 1}, {MAX, 1}, {0, MIN}, {0, MAX}};
        for (int[] w : wrong) {
            due.is("5: drifts(" + w[0] + ", " + w[1] + ")", x.drifts(w[0], w[1]), false);
        }
        due.is("5: look(10)", x.look(10), 16);
        due.is("5: drifts(0, 1)", x.drifts(0, 1), true);
        due.is("5: drifts(5, 511)", x.drifts(5, 511), true);
        due.is("5: look(10)", x.look(10), 1);
        due.is("5: look(11)", x.look(11), 16);
        due.is("5: look(15)", x.look(15), 511);
    }

    private void watches() {
        CanoeMaster x = new CanoeMaster();
        int[][] wrong = {{64, 0}, {0, 64}, {-1, 0}, {0, -1}, {MIN, 0}, {0, MAX}};
        due.is("6: watches(63, 1)", x.watches(63, 1), true);
        for (int[] w : wrong) {
            due.is("6: watches(" + w[0] + ", " + w[1] + ")", x.watches(w[0], w[1]), false);
        }
        due.is("6: look(7)", x.look(7), 63);
        due.is("6: look(8)", x.look(8), 1);
        due.is("6: watches(0, 63)", x.watches(0, 63), true);
        due.is("6: look(7)", x.look(7), 0);
        due.is("6: look(8)", x.look(8), 63);
    }

    private void look() {
        CanoeMaster x = new CanoeMaster();
        x.sea(8, 3);
        x.land(2, 0);
        x.land(23, 3);
        x.swell(22, 3);
        x.begin(0xc00006L);
        x.put(22);
        due.is("7: look(0)", x.look(0), 8);
        due.is("7: look(1)", x.look(1), 3);
        due.is("7: look(3)", x.look(3), 4);
        due.is("7: look(4)", x.look(4), 2);
        due.is("7: look(5)", x.look(5), 22);
        due.is("7: look(123)", x.look(123), 3);
        due.is("7: look(102)", x.look(102), 0);
        due.is("7: look(222)", x.look(222), 3);
        int[] none = {-1, MIN, 9, 16, 99, 124, 199, 224, 300, MAX};
        for (int what : none) {
            due.is("7: look(" + what + ")", x.look(what), -2);
        }
        x.sea(8, 8);
        due.is("7: look(163)", x.look(163), -1);
        due.is("7: look(164)", x.look(164), -2);
        due.is("7: look(263)", x.look(263), 0);
        due.is("7: look(264)", x.look(264), -2);
        due.is("7: look(3)", x.look(3), 64);
    }

    private void reckoned() {
        CanoeMaster x = new CanoeMaster();
        x.sea(8, 8);
        x.begin(Long.MIN_VALUE);
        due.is("8: reckoned()", x.reckoned(), Long.MIN_VALUE);
        x.steer(0, 4);
        due.is("8: reckoned()", x.reckoned(), 1L << 54);
    }

    private void begin() {
        CanoeMaster x = new CanoeMaster();
        x.put(5);
        x.steer(4, 4);
        long[] wrong = {0, 0x10000L, 0x10001L, -1L, Long.MIN_VALUE, 1L << 63 | 1, 1L << 32};
        for (long set : wrong) {
            due.is("9: begin(" + set + ")", x.begin(set), false);
        }
        due.is("9: nothing is done", x.look(2) == 1 && x.look(5) == 5 && x.look(3) == 16, true);
        due.is("9: begin(32768)", x.begin(0x8000L), true);
        due.is("9: reckoned()", x.reckoned(), 0x8000L);
        due.is("9: look(2)", x.look(2), 0);
        due.is("9: look(5)", x.look(5), -1);
        x.sea(8, 8);
        due.is("9: begin of all 64", x.begin(-1L), true);
        due.is("9: look(3)", x.look(3), 64);
        due.is("9: begin of none of 64", x.begin(0), false);
    }

    private void put() {
        CanoeMaster x = new CanoeMaster();
        x.begin(0x21L);
        int[] wrong = {1, 16, 64, 69, -1, -59, MIN, MAX};
        due.is("10: put(5)", x.put(5), true);
        for (int cell : wrong) {
            due.is("10: put(" + cell + ")", x.put(cell), false);
        }
        due.is("10: look(5)", x.look(5), 5);
        due.is("10: put(0)", x.put(0), true);
        due.is("10: look(5)", x.look(5), 0);
    }

    private void steer() {
        CanoeMaster x = new CanoeMaster();
        x.drifts(0, 1 << 4 | 1 << 5);
        x.land(6, 0);
        x.begin(1 << 5 | 1 << 6);
        int[][] wrong = {{-1, 4}, {9, 4}, {MIN, 4}, {4, -1}, {4, 9}, {4, 3}, {4, MAX}, {4, 36}};
        for (int[] w : wrong) {
            due.is("11: steer(" + w[0] + ", " + w[1] + ")", x.steer(w[0], w[1]), -1);
        }
        due.is("11: nothing is done", x.look(2) == 0 && x.reckoned() == (1 << 5 | 1 << 6), true);
        due.is("11: steer(7, 5) without a true canoe", x.steer(7, 5), 3);
        due.is("11: land stays", x.reckoned(), 1 << 9 | 1 << 10 | 1 << 6);
        due.is("11: look(2)", x.look(2), 1);
        due.is("11: look(5)", x.look(5), -1);
        due.is("11: watch 1 has no drift 5", x.steer(4, 5), -1);
        x.put(6);
        due.is("11: steer(1, 4)", x.steer(1, 4), 2);
        due.is("11: a canoe on land stays", x.look(5), 6);
        due.is("11: reckoned()", x.reckoned(), 1 << 5 | 1 << 6);
        for (int i = 2; i < 6; i++) {
            x.steer(4, 4);
        }
        due.is("11: hour 6 is watch 0 again", x.steer(5, 5), 2);
        due.is("11: it went by one or by two", x.reckoned(), 1 << 6 | 1 << 7);
    }

    private void steerClamps() {
        CanoeMaster x = new CanoeMaster();
        x.sea(3, 2);
        x.drifts(0, 1 << 3);
        x.begin(0x8L);
        x.put(3);
        x.steer(5, 3);
        due.is("11: way and drift go at once, so the edge does not hold it", x.look(5), 3);
        x.drifts(1, 1 << 8);
        x.steer(8, 8);
        due.is("11: two at once, down to the edge", x.look(5), 5);
        due.is("11: reckoned()", x.reckoned(), 1 << 5);
        x.drifts(2, 1);
        x.steer(0, 0);
        due.is("11: two at once, up to the edge", x.look(5), 0);
        x.sea(8, 8);
        x.begin(1L << 63 | 1L << 7 | 1L << 56);
        x.drifts(0, 1 << 8);
        x.steer(8, 8);
        due.is("11: in the corners of 64", x.reckoned(), 1L << 63 | 1L << 23 | 1L << 58);
    }

    private void sign() {
        CanoeMaster x = new CanoeMaster();
        x.sea(3, 8);
        x.swell(23, 3);
        x.watches(1 << 5, 0);
        int[][] wrong = {{24, 0, 0}, {-1, 0, 0}, {0, 6, 0}, {0, -1, 0}, {0, 0, 3}, {0, 0, -1}, {MAX, 0, 0}, {0, MIN, 1}, {0, 32, 1}};
        for (int[] w : wrong) {
            due.is("12: sign(" + w[0] + ", " + w[1] + ", " + w[2] + ")", x.sign(w[0], w[1], w[2]), -2);
        }
        due.is("12: swell", x.sign(23, 0, 0), 3);
        due.is("12: swell at first", x.sign(22, 0, 0), 0);
        due.is("12: no star by day", x.sign(23, 4, 1), -1);
        int[] stars = {0, 0, 1, 1, 2, 2, 3, 3};
        for (int y = 0; y < 8; y++) {
            due.is("12: star of row " + y, x.sign(3 * y + 2, 5, 1), stars[y]);
        }
    }

    private void signOfBirds() {
        CanoeMaster x = new CanoeMaster();
        x.sea(8, 8);
        x.watches(0, 1 << 2);
        x.land(27, 0);
        due.is("12: birds over the land itself", x.sign(27, 2, 2), 1);
        due.is("12: none beside it", x.sign(28, 2, 2), 0);
        due.is("12: none in another watch", x.sign(27, 3, 2), 0);
        for (int reach = 0; reach <= 3; reach++) {
            x.land(27, reach);
            for (int cell = 0; cell < 64; cell++) {
                int off = Math.max(Math.abs(cell % 8 - 3), Math.abs(cell / 8 - 3));
                due.is("12: birds of reach " + reach + " at " + cell, x.sign(cell, 2, 2), off <= reach ? 1 : 0);
            }
        }
        x.land(63, 1);
        x.land(27, 0);
        due.is("12: each land has its own reach", x.sign(54, 2, 2) == 1 && x.sign(28, 2, 2) == 0, true);
        due.is("12: not around the edge", x.sign(48, 2, 2) == 0 && x.sign(56, 2, 2) == 0 && x.sign(7, 2, 2) == 0, true);
        x.land(63, -1);
        due.is("12: no land, no birds", x.sign(54, 2, 2), 0);
    }

    private void see() {
        CanoeMaster x = new CanoeMaster();
        x.swell(3, 2);
        x.swell(9, 2);
        x.watches(2, 2);
        x.land(0, 1);
        int[] wrong = {-1, 3, MIN, MAX};
        for (int what : wrong) {
            due.is("13: see(" + what + ", 0)", x.see(what, 0), -1);
        }
        due.is("13: see(0, 3): none would be left", x.see(0, 3), -1);
        due.is("13: see(1, 0): no star by day", x.see(1, 0), -1);
        due.is("13: see(1, -1): by day that is so everywhere", x.see(1, -1), 16);
        due.is("13: see(2, 1): no flight in watch 0", x.see(2, 1), -1);
        due.is("13: see(2, 0)", x.see(2, 0), 16);
        x.steer(4, 4);
        due.is("13: see(1, -1) by night", x.see(1, -1), -1);
        x.put(3);
        due.is("13: see(0, 0): the true canoe's would not be left", x.see(0, 0), -1);
        due.is("13: nothing is done", x.look(3), 16);
        due.is("13: see(0, 2)", x.see(0, 2), 2);
        due.is("13: reckoned()", x.reckoned(), 1 << 3 | 1 << 9);
        due.is("13: see(2, 0)", x.see(2, 0), 2);
        due.is("13: see(1, 0)", x.see(1, 0), 1);
        due.is("13: reckoned()", x.reckoned(), 1 << 3);
        due.is("13: the hour stays", x.look(2), 1);
    }

    private void sights() {
        CanoeMaster x = new CanoeMaster();
        due.is("14: sights() without a true canoe", x.sights(), -1);
        x.put(5);
        due.is("14: sights() by day, without swell and birds", x.sights(), 16);
        x.watches(1, 0);
        due.is("14: the star", x.sights(), 8);
        x.swell(5, 1);
        x.swell(6, 1);
        x.swell(0, 1);
        due.is("14: the swell", x.sights(), 3);
        x.watches(1, 1);
        x.land(11, 1);
        due.is("14: the birds that are not seen", x.sights(), 2);
        due.is("14: reckoned()", x.reckoned(), 1 | 1 << 5);
        x.begin(0xffffL);
        due.is("14: sights() after begin", x.sights(), -1);
        x.put(6);
        due.is("14: all at once", x.sights(), 1);
    }

    private void feed() {
        CanoeMaster x = new CanoeMaster();
        due.is("15: the highest byte comes first", chantOfWords(x), 1);
        for (int i = 1; i <= 20; i++) {
            due.is("15: feed number " + i, x.feed(-1, 0, MIN, MAX, 1), 20 * i);
        }
        due.is("15: feed beyond 400", x.feed(1, 2, 3, 4, 5), -1);
        due.is("15: none came", x.end(400), 400);
        due.is("15: end(381)", x.end(381), 381);
        due.is("15: feed beyond 400 by one", x.feed(1, 2, 3, 4, 5), -1);
        due.is("15: end(380)", x.end(380), 380);
        due.is("15: feed up to 400", x.feed(1, 2, 3, 4, 5), 400);
    }

    private static int chantOfWords(CanoeMaster x) {
        x.feed(0x73746565, 0x72203720, 0x666f7220, 0x333b2020, 0x20202020);
        return x.chant();
    }

    private void end() {
        CanoeMaster x = new CanoeMaster();
        due.is("16: end(0)", x.end(0), 0);
        x.feed(0x73746565, 0x72203720, 0x666f7220, 0x333b2020, 0x20202078);
        int[] wrong = {-1, 21, MIN, MAX};
        for (int n : wrong) {
            due.is("16: end(" + n + ")", x.end(n), -1);
        }
        due.is("16: end(20)", x.end(20), 20);
        due.is("16: end(19)", x.end(19), 19);
        due.is("16: end(20) then", x.end(20), -1);
        due.is("16: chant() of what is left", x.chant(), 1);
    }

    private void chant() {
        CanoeMaster x = new CanoeMaster();
        due.is("17: a chant of one line", Texts.chant(x, "steer 3 for 20 ;"), 1);
        due.is("17: the tape is empty then", x.end(1), -1);
        due.is("17: blanks and lines", Texts.chant(x, "\n steer 3\nuntil  swell 0 for 1;\nsteer 4 until star 3 for 20; \n"), 2);
        due.is("17: no blanks where none are needed", Texts.chant(x, "steer3until birds for4;steer08for01;steer0until star03for9;"), 3);
        due.is("17: a fault", Texts.chant(x, "steer 3 for 21;"), -1);
        due.is("17: the chant stays", x.look(6), 3);
        due.is("17: the tape is empty all the same", x.end(1), -1);
        due.is("17: an empty text", x.chant(), 0);
        due.is("17: look(6)", x.look(6), 0);
        due.is("17: blanks alone", Texts.chant(x, " \n "), 0);
    }

    private void fault() {
        CanoeMaster x = new CanoeMaster();
        Texts.chant(x, "steer 9 for 1;");
        int[] others = {-1, 2, MIN, MAX};
        for (int what : others) {
            due.is("18: fault(" + what + ")", x.fault(what), -1);
        }
        due.is("18: fault(0)", x.fault(0), 2);
        due.is("18: fault(1)", x.fault(1), 6);
        x.sea(3, 3);
        x.feed(1, 2, 3, 4, 5);
        due.is("18: until the next chant()", x.fault(0), 2);
        x.end(0);
        x.chant();
        due.is("18: fault(0) without one", x.fault(0), 0);
        due.is("18: fault(1) without one", x.fault(1), -1);
    }

    private void faultPlaces() {
        due.faultOf("steer 0 for 1;", 0, -1);
        due.faultOf("steer 8 until star 3 for 20;", 0, -1);
        due.faultOf("steer 9 for 1;", 2, 6);
        due.faultOf("steer 99 for 0;", 2, 6);
        due.faultOf("steer 100 for 1;", 1, 6);
        due.faultOf("steer 000 for 1;", 1, 6);
        due.faultOf("steer 00 for 01;", 0, -1);
        due.faultOf("steer 0 for 0;", 2, 12);
        due.faultOf("steer 0 for 00;", 2, 12);
        due.faultOf("steer 0 for 21;", 2, 12);
        due.faultOf("steer 0 for 020;", 1, 12);
        due.faultOf("steer 0 until swell 4 for 1;", 2, 20);
        due.faultOf("steer 0 until star 4 for 1;", 2, 19);
        due.faultOf("steer 0 until birds 1 for 1;", 1, 20);
        due.faultOf("steer 0 until swell for 1;", 1, 20);
        due.faultOf("steer 0 until for 1;", 1, 14);
        due.faultOf("steer 0 until 3 for 1;", 1, 14);
        due.faultOf("steer 0 untilbirds for 1;", 1, 8);
        due.faultOf("steer until birds for 1;", 1, 6);
        due.faultOf("steer 0 0 for 1;", 1, 8);
        due.faultOf("steer 0 for 1", 1, 13);
        due.faultOf("steer 0 for 1 \n", 1, 15);
        due.faultOf("steer", 1, 5);
        due.faultOf("steer 0 until", 1, 13);
        due.faultOf("steer 0 for 1;;", 1, 14);
        due.faultOf(";", 1, 0);
        due.faultOf("  7", 1, 2);
        due.faultOf("STEER 0 for 1;", 1, 0);
        due.faultOf("steerX 0 for 1;", 1, 0);
        due.faultOf("steers 0 for 1;", 1, 0);
        due.faultOf("stee 0 for 1;", 1, 0);
        due.faultOf("steer\t0 for 1;", 1, 5);
        due.faultOf("steer\r0 for 1;", 1, 5);
        due.faultOf("steer -1 for 1;", 1, 6);
        due.faultOf("steer 0 for 1; x", 1, 15);
        due.faultOf("steer 0 for 1; steer 0 for 1; for", 1, 30);
        due.faultOf("steer 0 for 1;\u0000", 1, 14);
        due.faultOf("steer 0 for 1;\u00ff", 1, 14);
        due.faultOf("steer 0 for 30 x", 2, 12);
    }

    private void thirteenthLine() {
        String twelve = "steer 0 for 1;".repeat(12);
        due.faultOf(twelve, 0, -1);
        due.faultOf(twelve + "  ", 0, -1);
        due.faultOf(twelve + " steer 0 for 1;", 3, 169);
        due.faultOf(twelve + "steer", 3, 168);
        due.faultOf(twelve + "steer 99", 3, 168);
        due.faultOf(twelve + "steers", 1, 168);
        due.faultOf(twelve + ";", 1, 168);
        due.faultOf("steer 0 for 0;" + twelve + "steer", 2, 12);
        CanoeMaster x = new CanoeMaster();
        due.is("17: twelve lines", Texts.chant(x, twelve), 12);
        due.is("17: thirteen lines", Texts.chant(x, twelve + "steer 0 for 1;"), -1);
        due.is("17: look(6)", x.look(6), 12);
    }

    private void sure() {
        CanoeMaster x = new CanoeMaster();
        x.land(0, 1);
        int[] others = {-1, 3, MIN, MAX};
        for (int what : others) {
            due.is("19: sure(" + what + ")", x.sure(what), -2);
        }
        due.is("19: no chant lands from the sea", x.sure(0), -1);
        due.is("19: what is on land has landed", x.sure(1), 0);
        due.is("19: all but the land are not sure", x.sure(2), 15);
        Texts.chant(x, "steer 0 for 3;");
        due.is("19: sure(0)", x.sure(0), 3);
        due.is("19: sure(1)", x.sure(1), 0);
        due.is("19: sure(2)", x.sure(2), 0);
        Texts.chant(x, "steer 0 for 2;");
        due.is("19: an hour too few", x.sure(0), -1);
        due.is("19: the far rows are not sure", x.sure(2), 7);
        x.begin(1 << 15);
        due.is("19: sure(1): it never lands", x.sure(1), -1);
        x.begin(1 << 15 | 1 << 10);
        due.is("19: sure(1): one may", x.sure(1), 2);
        due.is("19: sure(2)", x.sure(2), 1);
        x.begin(1 << 10 | 1 << 5);
        due.is("19: sure(0)", x.sure(0), 2);
        due.is("19: sure(1)", x.sure(1), 1);
        x.begin(1);
        due.is("19: all on land", x.sure(0), 0);
    }

    private void sureByDrifts() {
        CanoeMaster x = new CanoeMaster();
        x.sea(8, 2);
        x.land(0, 0);
        x.land(8, 0);
        x.begin(1 << 7);
        for (int watch = 0; watch < 6; watch++) {
            x.drifts(watch, 1 << 3 | 1 << 4);
        }
        Texts.chant(x, "steer 3 for 7;");
        due.is("19: LONGEST, without help", x.sure(0), 7);
        due.is("19: SHORTEST, with all help", x.sure(1), 4);
        Texts.chant(x, "steer 4 for 20;");
        due.is("19: it may, but is not sure", x.sure(0) == -1 && x.sure(1) == 7 && x.sure(2) == 1, true);
        Texts.chant(x, "steer 5 for 20;");
        due.is("19: it never lands", x.sure(0) == -1 && x.sure(1) == -1, true);
        String twelve = "steer 4 for 20;".repeat(11) + "steer 3 for 20;";
        for (int watch = 0; watch < 6; watch++) {
            x.drifts(watch, 1 << 4);
        }
        Texts.chant(x, twelve);
        due.is("19: the longest that can be waited", x.sure(0), 227);
        due.is("19: SHORTEST", x.sure(1), 227);
    }

    private void sureByWatches() {
        CanoeMaster x = new CanoeMaster();
        x.land(0, 1);
        x.watches(1 << 3, 1 << 3);
        x.begin(1 << 5);
        Texts.chant(x, "steer 4 until birds for 20; steer 0 for 1;");
        due.is("19: the birds come at hour 3", x.sure(0), 4);
        x.steer(4, 4);
        due.is("19: from now on", x.sure(0), 3);
        x.steer(4, 4);
        x.steer(4, 4);
        due.is("19: a sign that is there already ends the line at once", x.sure(0), 1);
        x.steer(4, 4);
        due.is("19: on the next day", x.sure(0), 6);
        x.begin(1 << 5);
        Texts.chant(x, "steer 4 until star 0 for 2; steer 0 for 1;");
        due.is("19: no star by day", x.sure(0), 3);
        Texts.chant(x, "steer 4 until swell 0 for 2; steer 0 until swell 1 for 1;");
        due.is("19: a line left out", x.sure(0), 1);
        x.swell(5, 1);
        due.is("19: the sea changes, the chant is judged anew", x.sure(0), -1);
        x.land(5, 0);
        due.is("19: LAND ends it ahead of any sign", x.sure(0), 0);
        x.land(5, -1);
        Texts.chant(x, "steer 4 until star 1 for 20; steer 0 for 5;");
        due.is("19: a star that is never seen", x.sure(0), 21);
    }

    private void from() {
        CanoeMaster x = new CanoeMaster();
        x.land(0, 0);
        x.begin(2);
        int[] wrong = {-1, 16, MIN, MAX};
        for (int cell : wrong) {
            due.is("20: from(" + cell + ")", x.from(cell), -2);
        }
        due.is("20: on land without a chant", x.from(0), 0);
        due.is("20: at sea without a chant", x.from(1), -1);
        Texts.chant(x, "steer 0 for 2;");
        int[] hours = {0, 1, 2, -1, 1, 1, 2, -1, 2, 2, 2, -1, -1, -1, -1, -1};
        for (int cell = 0; cell < 16; cell++) {
            due.is("20: from(" + cell + "), reckoned or not", x.from(cell), hours[cell]);
        }
        x.drifts(1, 1 << 0 | 1 << 8);
        due.is("20: from(1)", x.from(1), 1);
        due.is("20: from(2): the second hour may hold it back", x.from(2), -1);
        x.steer(4, 4);
        due.is("20: from(1) from hour 1 on: it may be held back once", x.from(1), 2);
        x.drifts(1, 16);
        due.is("20: from(1) after the drifts have changed", x.from(1), 1);
    }

    private void sings() {
        CanoeMaster x = new CanoeMaster();
        Texts.chant(x, "steer 1 until birds for 1; steer 2 until swell 2 for 1; steer 3 until star 0 for 1;");
        due.is("21: no true canoe", x.sings(0), -1);
        x.put(5);
        int[] wrong = {-1, 3, MIN, MAX};
        for (int line : wrong) {
            due.is("21: sings(" + line + ")", x.sings(line), -1);
        }
        due.is("21: sings(0)", x.sings(0), 1);
        due.is("21: sings(1)", x.sings(1), 2);
        due.is("21: sings(2)", x.sings(2), 3);
        x.land(0, 1);
        x.watches(0, 1);
        due.is("21: the birds are there", x.sings(0), 2);
        x.swell(5, 2);
        due.is("21: the swell is there", x.sings(0), 3);
        x.watches(1, 1);
        due.is("21: the star too: over", x.sings(0), 10);
        due.is("21: over", x.sings(2), 10);
        x.steer(4, 4);
        due.is("21: the next watch has no birds", x.sings(0), 1);
        due.is("21: and no star", x.sings(1), 3);
        x.land(5, 0);
        due.is("21: on land", x.sings(2), 9);
        due.is("21: on land, but no such line", x.sings(3), -1);
    }

    private void rowOf(CanoeMaster x, int... ways) {
        due.is("22: blind(0)", x.blind(0), ways.length);
        for (int i = 0; i < ways.length; i++) {
            due.is("22: blind(" + (10 + i) + ")", x.blind(10 + i), ways[i]);
        }
        due.is("22: behind the row", x.blind(10 + ways.length), -2);
    }

    private void blind() {
        CanoeMaster x = new CanoeMaster();
        int[] others = {-1, 1, 9, 22, MIN, MAX, MIN + 10};
        for (int what : others) {
            due.is("22: blind(" + what + ")", x.blind(what), -2);
        }
        due.is("22: without land", x.blind(0), -1);
        due.is("22: blind(10) without land", x.blind(10), -1);
        due.is("22: blind(21) without land", x.blind(21), -1);
        x.land(15, 0);
        rowOf(x, 8, 8, 8);
        x.begin(1 << 14);
        rowOf(x, 5);
        x.begin(1 << 13);
        rowOf(x, 2, 8);
        x.begin(1 << 15);
        rowOf(x);
        x.sea(3, 3);
        x.land(4, 0);
        x.begin(1 << 0 | 1 << 8);
        rowOf(x, 0, 8);
        x.begin(1 << 1);
        rowOf(x, 7);
        x.begin(1 << 1 | 1 << 3);
        due.is("22: from two sides", x.blind(0), 2);
        x.drifts(0, 1 << 4 | 1 << 5);
        x.begin(1 << 0);
        due.is("22: a drift that may carry it beside the land", x.blind(0) > 1, true);
        for (int watch = 0; watch < 6; watch++) {
            x.drifts(watch, 511);
        }
        due.is("22: drifts that never let it be sure", x.blind(0), -1);
    }

    private void blindTwelve() {
        CanoeMaster x = new CanoeMaster();
        x.sea(8, 8);
        for (int watch = 0; watch < 6; watch++) {
            x.drifts(watch, 1 << 5);
        }
        x.drifts(5, 1 << 3);
        x.drifts(4, 1 << 3);
        x.drifts(3, 1 << 3);
        x.land(0, 0);
        x.land(8, 0);
        x.begin(1 << 7 | 1 << 15);
        due.is("22: three hours with it, then from hour 9 on again", x.blind(0), 10);
        x.steer(4, 5);
        x.steer(4, 5);
        due.is("22: from hour 2 on", x.blind(0), 8);
        for (int watch = 0; watch < 6; watch++) {
            x.drifts(watch, 1 << 5);
        }
        due.is("22: the drift undoes every way", x.blind(0), -1);
        onlyEverySecondHour(5, 10);
        onlyEverySecondHour(6, 12);
        onlyEverySecondHour(7, -1);
    }

    /**
     * Watches 0, 2 and 4 undo the way to the land, so that one cell takes two hours, and the drifts keep both rows
     * reckoned: the same set must be gone on from in more than one watch.
     */
    private void onlyEverySecondHour(int off, int hours) {
        CanoeMaster x = new CanoeMaster();
        x.sea(8, 2);
        for (int watch = 0; watch < 6; watch++) {
            x.drifts(watch, watch % 2 == 0 ? 1 << 2 | 1 << 8 : 1 << 1 | 1 << 7);
        }
        x.land(0, 0);
        x.land(8, 0);
        x.begin(1L << off | 1L << off + 8);
        due.is("22: " + off + " cells off, every second hour", x.blind(0), hours);
        due.is("22: its last way or none", x.blind(10 + 11), hours == 12 ? 0 : hours < 0 ? -1 : -2);
    }

    private void blindSpent() {
        CanoeMaster x = new CanoeMaster();
        x.sea(8, 8);
        x.land(27, 0);
        for (int watch = 0; watch < 6; watch++) {
            x.drifts(watch, 1 << 3 | 1 << 4 | 1 << 1);
        }
        due.is("22: SPENT", x.blind(0), -2);
        due.is("22: SPENT at a way", x.blind(10), -2);
        x.begin(1L << 27);
        due.is("22: but not where it is landed", x.blind(0), 0);
    }

    /** How many sets come up ahead of the best row was counted by a search of its own. */
    private void blindAtTheEdgeOfSpent() {
        int[] land3000 = {22, 14, 4};
        int[] drift3000 = {16, 260, 66, 36, 20, 48};
        due.is("22: 3000 come up ahead of it", blindIn(6, 4, land3000, drift3000, 0xffffffL), 7);
        int[] land3001 = {7, 2, 0};
        int[] drift3001 = {272, 20, 272, 16, 16, 132};
        due.is("22: 3001 come up ahead of it", blindIn(3, 6, land3001, drift3001, 63794), -2);
    }

    /** How many sets come up behind 11 and behind 12 hours was counted by a search of its own. */
    private void blindBehindTwelveHours() {
        int[] none = {};
        int[] still = {16, 16, 16, 16, 16, 16};
        due.is("22: 2997 behind 11 hours, 3063 behind 12", blindIn(6, 6, none, still, 64424509468L), -1);
        int[] drift3000 = {128, 256, 36, 129, 256, 8};
        due.is("22: 3000 behind 11 hours, 3520 behind 12", blindIn(8, 3, none, drift3000, 0xffffffL), -1);
        int[] drift3001 = {2, 32, 64, 1, 32, 129};
        due.is("22: 3001 behind 11 hours", blindIn(5, 3, none, drift3001, 22183), -2);
        int[] two = {4, 6};
        int[] driftTwo = {2, 1, 64, 129, 16, 64};
        due.is("22: 2844 behind 11 hours, 439 more ahead of it", blindIn(8, 2, two, driftTwo, 42875), 12);
        int[] one = {20};
        int[] driftOne = {16, 4, 3, 2, 16, 16};
        due.is("22: 2911 behind 11 hours, 282 more ahead of it", blindIn(3, 7, one, driftOne, 1493395), 12);
    }

    private static int blindIn(int w, int h, int[] lands, int[] drifts, long set) {
        CanoeMaster x = new CanoeMaster();
        x.sea(w, h);
        for (int cell : lands) {
            x.land(cell, 0);
        }
        for (int watch = 0; watch < 6; watch++) {
            x.drifts(watch, drifts[watch]);
        }
        x.begin(set);
        return x.blind(0);
    }

    private void blindAfterChanges() {
        CanoeMaster x = new CanoeMaster();
        x.land(0, 0);
        due.is("22: blind(0)", x.blind(0), 3);
        x.steer(0, 4);
        due.is("22: an hour on", x.blind(0), 2);
        x.land(0, -1);
        due.is("22: the land is gone", x.blind(0), -1);
        x.land(5, 0);
        due.is("22: another land", x.blind(0) > 0, true);
        x.put(5);
        x.swell(5, 3);
        x.see(0, 3);
        due.is("22: seen to be on it", x.blind(0), 0);
    }
}
