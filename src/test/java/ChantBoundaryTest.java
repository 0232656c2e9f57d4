/** Promises 15 to 22: each sentence that names a boundary case has a test of its own. */
public final class ChantBoundaryTest {
    private static final int MIN = Integer.MIN_VALUE;
    private static final int MAX = Integer.MAX_VALUE;
    private static final int BLANKS = 0x20202020;

    private final Due due = new Due();
    private final Scene scene = new Scene(due);
    private final Scene withoutCanoe = new Scene(due, x -> x.begin(x.reckoned()));
    private final Scene withoutChant = new Scene(due, x -> Texts.chant(x, ""));
    private final Scene withFullTape = new Scene(due, x -> {
        x.end(0);
        Texts.write(x, "steer 6 for 7;" + " ".repeat(371) + "steer 8 for 20;");
    });

    public static void main(String[] args) {
        ChantBoundaryTest test = new ChantBoundaryTest();
        test.feeds();
        test.ends();
        test.chants();
        test.faults();
        test.sureChants();
        test.fromCells();
        test.singing();
        test.blindRows();
        test.due.finish();
    }

    private void feeds() {
        feedFull();
        feedThatWouldBeMore();
        feedUpToFull();
        feedHighestByteFirst();
        feedEachByte();
    }

    private void ends() {
        endOfNotSoMany();
        endBelowNone();
        endOfAllAndNone();
        endTakesTheFirst();
    }

    private void chants() {
        chantOfAnEmptyTape();
        chantOfAFullTape();
        chantOfTwelveLines();
        chantStaysAtAFault();
        chantEmptiesTheTape();
        chantOfTheTapeAlone();
    }

    private void faults() {
        faultOfAnotherWhat();
        faultWithoutOne();
        faultOfTheLatest();
        faultAtTheEnd();
        faultAtThirteenthLine();
        faultOfWays();
        faultOfHours();
        faultOfSignNumbers();
        faultOfDigits();
        faultOfWords();
        faultOfEachByte();
        faultOfEachTokenEverywhere();
        faultFirstByPlace();
        faultLeastAtOnePlace();
    }

    private void sureChants() {
        sureOfAnotherWhat();
        sureWithoutLines();
        sureOnLandInNoHours();
        sureForOneHour();
        sureForTwentyHours();
        sureToTheLastHourOfTheLastLine();
        sureSignAtOnce();
        sureSignAtTheEndOfALine();
        sureLinesLeftOut();
        sureOverTheDay();
        sureOfEachSignNumber();
        sureByEachDrift();
        sureInEachWatch();
        sureAfterEachChange();
        sureNeverOrPerhaps();
        sureCountsTheCells();
    }

    private void fromCells() {
        fromNoCell();
        fromFirstAndLast();
        fromWhatIsNotReckoned();
    }

    private void singing() {
        singsWithoutCanoe();
        singsNoSuchLine();
        singsFirstAndLastLine();
        singsOnLand();
        singsOver();
    }

    private void blindRows() {
        blindOfAnotherWhat();
        blindOfNoHours();
        blindBehindTheRow();
        blindOfTwelveHours();
        blindWithinTwelveAtMost();
        blindOfManyWays();
        blindOverTheDay();
        blindAfterEachChange();
        blindSpent();
        blindChangesNothing();
    }

    // Promise 15: NONE, and none come, if there would be more than 400.

    private void feedFull() {
        CanoeMaster x = new CanoeMaster();
        for (int i = 1; i <= 20; i++) {
            due.is("15: feed number " + i, x.feed(BLANKS, BLANKS, BLANKS, BLANKS, BLANKS), 20 * i);
        }
        due.is("15: feed behind 400", x.feed(1, 2, 3, 4, 5), -1);
        due.is("15: it has 400", x.end(400), 400);
    }

    private void feedThatWouldBeMore() {
        withFullTape.changesNothing("15: feed behind 400", x -> x.feed(1, 2, 3, 4, 5), -1);
        int[] lengths = {381, 382, 390, 399};
        for (int length : lengths) {
            Scene nearlyFull = new Scene(due, x -> {
                x.end(0);
                Texts.write(x, "steer 6 for 7;" + " ".repeat(length - 14));
            });
            nearlyFull.changesNothing("15: feed behind " + length, x -> x.feed(1, 2, 3, 4, 5), -1);
        }
    }

    private void feedUpToFull() {
        CanoeMaster x = new CanoeMaster();
        Texts.write(x, " ".repeat(380));
        due.is("15: feed behind 380", x.feed(BLANKS, BLANKS, BLANKS, BLANKS, 0x20202078), 400);
        due.is("15: the last byte came", x.chant(), -1);
        due.is("15: at place 399", x.fault(1), 399);
    }

    private void feedHighestByteFirst() {
        CanoeMaster x = new CanoeMaster();
        x.feed(0x73746565, 0x72372066, 0x6f723230, 0x3b202020, 0x20200a0a);
        due.is("15: steer7 for20;", x.chant(), 1);
        x.put(0);
        due.is("15: its WAY", x.sings(0), 7);
    }

    /** Every place of the twenty, with bytes whose ints are below 0 too. */
    private void feedEachByte() {
        for (int place = 0; place < 20; place++) {
            int[] words = {BLANKS, BLANKS, BLANKS, BLANKS, BLANKS};
            words[place / 4] += (0xff - 0x20) << 24 - 8 * (place % 4);
            CanoeMaster x = new CanoeMaster();
            due.is("15: byte 255 at " + place, x.feed(words[0], words[1], words[2], words[3], words[4]), 20);
            due.is("15: it can't stand there", x.chant(), -1);
            due.is("15: its place", x.fault(1), place);
        }
    }

    // Promise 16: NONE if there are not so many, or n is below 0.

    private void endOfNotSoMany() {
        int[] wrong = {21, 22, 40, 400, 401, MAX};
        for (int n : wrong) {
            scene.changesNothing("16: end(" + n + ")", x -> x.end(n), -1);
        }
        withFullTape.changesNothing("16: end(401)", x -> x.end(401), -1);
        CanoeMaster x = new CanoeMaster();
        due.is("16: end(1) of none", x.end(1), -1);
    }

    private void endBelowNone() {
        int[] wrong = {-1, -20, -256, MIN};
        for (int n : wrong) {
            scene.changesNothing("16: end(" + n + ")", x -> x.end(n), -1);
        }
    }

    private void endOfAllAndNone() {
        CanoeMaster x = new CanoeMaster();
        due.is("16: end(0) of none", x.end(0), 0);
        Texts.write(x, " ".repeat(400));
        due.is("16: end(400)", x.end(400), 400);
        due.is("16: end(399)", x.end(399), 399);
        due.is("16: what is cut off is gone", x.end(400), -1);
        due.is("16: end(0)", x.end(0), 0);
        due.is("16: then it is empty", x.end(1), -1);
        due.is("16: and is fed from its start", x.feed(0, 0, 0, 0, 0), 20);
    }

    private void endTakesTheFirst() {
        CanoeMaster x = new CanoeMaster();
        Texts.write(x, "steer 2 for 3;steer ");
        due.is("16: end(14)", x.end(14), 14);
        due.is("16: the first 14 alone", x.chant(), 1);
        Texts.write(x, "steer 2 for 3;xxxxxx");
        x.end(12);
        x.feed(0x343b2020, BLANKS, BLANKS, BLANKS, BLANKS);
        due.is("16: what comes then is behind them", x.chant(), 1);
    }

    // Promise 17: NONE: a FAULT (it stays). 12 LINES at most.

    private void chantOfAnEmptyTape() {
        CanoeMaster x = scene.made();
        x.end(0);
        due.is("17: chant() of none", x.chant(), 0);
        due.is("17: no LINES", x.look(6), 0);
        due.is("17: no FAULT", x.fault(0), 0);
        due.is("17: chant() of blanks", Texts.chant(x, "\n ".repeat(200)), 0);
    }

    private void chantOfAFullTape() {
        CanoeMaster x = withFullTape.made();
        due.is("17: chant() of 400 bytes", x.chant(), 2);
        x.begin(1);
        x.put(0);
        due.is("17: its first LINE", x.sings(0), 6);
        due.is("17: its last LINE", x.sings(1), 8);
    }

    private void chantOfTwelveLines() {
        CanoeMaster x = scene.made();
        x.end(0);
        due.is("17: chant() of 12 LINES", Texts.chant(x, "steer 2 for 1;".repeat(12)), 12);
        due.is("17: look(6)", x.look(6), 12);
        due.is("17: chant() of 13 LINES", Texts.chant(x, "steer 3 for 1;".repeat(13)), -1);
        due.is("17: the 12 stay", x.look(6), 12);
        due.is("17: as they were", x.sings(0) == 2 && x.sings(11) == 2 && x.sings(12) == -1, true);
        due.is("17: chant() of 11 LINES", Texts.chant(x, "steer 3 for 1;".repeat(11)), 11);
        due.is("17: the 12th is gone", x.sings(11), -1);
    }

    /** A second text with one and the same FAULT leaves only what the first one did otherwise. */
    private void chantStaysAtAFault() {
        String[] wrong = {"steer 5 for 21;", "steer 5 for 2", "steer 5 for 2; steer 6 for 2; x", "steer 5 for 2;".repeat(13), "x"};
        for (String text : wrong) {
            CanoeMaster x = scene.made();
            x.sure(0);
            x.end(0);
            due.is("17: chant() of '" + text + "'", Texts.chant(x, text), -1);
            Texts.chant(x, ";");
            CanoeMaster unasked = scene.made();
            unasked.end(0);
            Texts.chant(unasked, ";");
            due.is("17: chant() of '" + text + "': what stays", Scene.told(x), Scene.told(unasked));
        }
    }

    private void chantEmptiesTheTape() {
        CanoeMaster x = new CanoeMaster();
        due.is("17: without a FAULT", Texts.chant(x, "steer 0 for 1;"), 1);
        due.is("17: the TAPE is empty", x.end(1), -1);
        due.is("17: with a FAULT", Texts.chant(x, "steer 0 for 1"), -1);
        due.is("17: the TAPE is empty", x.end(1), -1);
        due.is("17: nothing of it is left", x.chant(), 0);
    }

    private void chantOfTheTapeAlone() {
        CanoeMaster x = new CanoeMaster();
        Texts.chant(x, "steer 0 for 1; steer 1 for 1;");
        due.is("17: not what an earlier TAPE had behind it", Texts.chant(x, "steer 5 for 1;"), 1);
        x.put(0);
        due.is("17: sings(0)", x.sings(0), 5);
        due.is("17: sings(1)", x.sings(1), -1);
    }

    // Promise 18: of the latest chant(); NONE for another what.

    private void faultOfAnotherWhat() {
        int[] wrong = {-1, 2, 3, MIN, MAX};
        for (int what : wrong) {
            scene.changesNothing("18: fault(" + what + ")", x -> x.fault(what), -1);
        }
    }

    private void faultWithoutOne() {
        CanoeMaster x = new CanoeMaster();
        due.is("18: fault(0) before any chant()", x.fault(0), 0);
        due.is("18: fault(1) before any chant()", x.fault(1), -1);
        due.faultOf("", 0, -1);
        due.faultOf("steer 0 for 1;", 0, -1);
    }

    private void faultOfTheLatest() {
        CanoeMaster x = new CanoeMaster();
        Texts.chant(x, "steer 0 for 21;");
        due.is("18: fault(0)", x.fault(0), 2);
        due.is("18: fault(1)", x.fault(1), 12);
        Texts.chant(x, ";");
        due.is("18: fault(0) of the latest", x.fault(0), 1);
        due.is("18: fault(1) of the latest", x.fault(1), 0);
        x.feed(BLANKS, BLANKS, BLANKS, BLANKS, BLANKS);
        x.end(3);
        x.sea(2, 2);
        due.is("18: it stays until the next", x.fault(0), 1);
        x.chant();
        due.is("18: fault(0) without one", x.fault(0), 0);
        due.is("18: fault(1) without one", x.fault(1), -1);
    }

    // Terms, ==== 3: FAULTS, the first by its place, at one place the least.

    /** 1 what can't stand there (the end: the text's length). */
    private void faultAtTheEnd() {
        String text = "steer 0 until swell 1 for 12;";
        int[] behindTokens = {5, 7, 13, 19, 21, 25, 28};
        for (int length : behindTokens) {
            due.faultOf(text.substring(0, length), 1, length);
            due.faultOf(text.substring(0, length) + " \n ", 1, length + 3);
        }
        due.faultOf("steer 0 until birds", 1, 19);
        due.faultOf("steer 0 until star", 1, 18);
        due.faultOf(text + "steer", 1, 34);
        due.faultOf(" ".repeat(395) + "steer", 1, 400);
        due.faultOf("steer 0 for 1" + " ".repeat(387), 1, 400);
        due.faultOf(" ".repeat(396) + "stee", 1, 396);
    }

    /** 3 (at steer) the 13th LINE. */
    private void faultAtThirteenthLine() {
        String eleven = "steer 0 for 1;".repeat(11);
        due.faultOf(eleven + "steer 0 for 1;", 0, -1);
        due.faultOf(eleven + "steer 0 for 1;steer 0 for 1;", 3, 168);
        due.faultOf(eleven + "steer 0 for 1; \nsteer 0 for 1;", 3, 170);
        due.faultOf(eleven + "steer 0 for 1;steer", 3, 168);
        due.faultOf(eleven + "steer 0 for 1;steer 9 for 0 x", 3, 168);
        due.faultOf(eleven + "steer 0 for 1;for", 1, 168);
        due.faultOf(eleven + "steer 0 for 1;7", 1, 168);
        due.faultOf(eleven + "steer 0 for 1;steers", 1, 168);
        due.faultOf(eleven + "steer 0 for 1; \n", 0, -1);
        due.faultOf("steer 0 for 1;".repeat(20), 3, 168);
    }

    /** WAY 0 .. 8. */
    private void faultOfWays() {
        for (int way = 0; way <= 99; way++) {
            due.faultOf("steer " + way + " for 1;", way <= 8 ? 0 : 2, way <= 8 ? -1 : 6);
        }
    }

    /** N 1 .. 20. */
    private void faultOfHours() {
        for (int n = 0; n <= 99; n++) {
            boolean fits = n >= 1 && n <= 20;
            due.faultOf("steer 0 for " + n + ";", fits ? 0 : 2, fits ? -1 : 12);
        }
    }

    /** swell NUMBER | star NUMBER (0 .. 3). */
    private void faultOfSignNumbers() {
        for (int n = 0; n <= 99; n++) {
            due.faultOf("steer 0 until swell " + n + " for 1;", n <= 3 ? 0 : 2, n <= 3 ? -1 : 20);
            due.faultOf("steer 0 until star " + n + " for 1;", n <= 3 ? 0 : 2, n <= 3 ? -1 : 19);
        }
        due.faultOf("steer 0 until birds 1 for 1;", 1, 20);
        due.faultOf("steer 0 until swell for 1;", 1, 20);
        due.faultOf("steer 0 until star for 1;", 1, 19);
    }

    /** NUMBERS of 1 or 2 digits or none. */
    private void faultOfDigits() {
        due.faultOf("steer 00 until star 00 for 01;", 0, -1);
        due.faultOf("steer 08 until swell 03 for 20;", 0, -1);
        due.faultOf("steer 09 for 1;", 2, 6);
        due.faultOf("steer 000 for 1;", 1, 6);
        due.faultOf("steer 0 for 001;", 1, 12);
        due.faultOf("steer 0 for 0020;", 1, 12);
        due.faultOf("steer 0 until star 003 for 1;", 1, 19);
        due.faultOf("steer 4294967296 for 1;", 1, 6);
        due.faultOf("steer " + "0".repeat(394), 1, 6);
        due.faultOf("steer 0 0 for 1;", 1, 8);
        due.faultOf("steer 0 for 1 0;", 1, 14);
    }

    /** Letters as many as stand together are KEYWORDS or none. */
    private void faultOfWords() {
        due.faultOf("steer0until birds for1;steer1until swell2for3;steer4until star3for5;", 0, -1);
        due.faultOf("steersteer 0 for 1;", 1, 0);
        due.faultOf("stee r 0 for 1;", 1, 0);
        due.faultOf("steer 0 untilbirds for 1;", 1, 8);
        due.faultOf("steer 0 until birdsfor 1;", 1, 14);
        due.faultOf("steer 0 until bird for 1;", 1, 14);
        due.faultOf("steer 0 until swells 1 for 1;", 1, 14);
        due.faultOf("steer 0 until stars 1 for 1;", 1, 14);
        due.faultOf("steer 0 until sta 1 for 1;", 1, 14);
        due.faultOf("steer 0 unti birds for 1;", 1, 8);
        due.faultOf("steer 0 fo 1;", 1, 8);
        due.faultOf("steer 0 fore 1;", 1, 8);
        due.faultOf("Steer 0 for 1;", 1, 0);
        due.faultOf("steer 0 FOR 1;", 1, 8);
        due.faultOf("s".repeat(400), 1, 0);
    }

    /** Blanks (32, 10) between; whatever is no token can't stand anywhere. */
    private void faultOfEachByte() {
        for (int b = 0; b < 256; b++) {
            String text = "steer" + (char) b + "0 for 1;";
            if (b == 32 || b == 10 || b == '0') {
                due.faultOf(text, 0, -1);
            } else if (b >= 'a' && b <= 'z' || b >= 'A' && b <= 'Z') {
                due.faultOf(text, 1, 0);
            } else {
                due.faultOf(text, b >= '1' && b <= '9' ? 2 : 1, 5);
            }
        }
    }

    /** 1 what can't stand there; what can is followed by the end, which can't. */
    private void faultOfEachTokenEverywhere() {
        String[][] followers = {
            {"", "steer", ""}, {"steer ", "1"}, {"steer 1 ", "until", "for"}, {"steer 1 until ", "birds", "swell", "star"},
            {"steer 1 until birds ", "for"}, {"steer 1 until swell ", "1"}, {"steer 1 until swell 1 ", "for"},
            {"steer 1 until star ", "1"}, {"steer 1 until star 1 ", "for"}, {"steer 1 for ", "1"}, {"steer 1 for 1 ", ";"},
            {"steer 1 for 1; ", "steer", ""}};
        String[] tokens = {"steer", "until", "for", "birds", "swell", "star", "1", ";", "", "x", "111", ","};
        for (String[] f : followers) {
            for (String token : tokens) {
                boolean stands = false;
                for (int i = 1; i < f.length; i++) {
                    stands |= f[i].equals(token);
                }
                boolean over = stands && (token.isEmpty() || token.equals(";"));
                int place = f[0].length() + (stands ? token.length() : 0);
                due.faultOf(f[0] + token, over ? 0 : 1, over ? -1 : place);
            }
        }
    }

    private void faultFirstByPlace() {
        due.faultOf("steer 9 for 0;", 2, 6);
        due.faultOf("steer 9 x", 2, 6);
        due.faultOf("steer x 9", 1, 6);
        due.faultOf("steer 0 for 0", 2, 12);
        due.faultOf("steer 0 until swell 4 for 21;", 2, 20);
        due.faultOf("steer 0 for 1; steer 0 for 21; ;", 2, 27);
        due.faultOf("steer 0 for 21;" + "steer 0 for 1;".repeat(13), 2, 12);
        due.faultOf("steer 0 for 1;".repeat(12) + "x steer 0 for 1;", 1, 168);
        due.faultOf("steer 0 for 1;".repeat(11) + "steer 9 for 1;steer", 2, 160);
    }

    private void faultLeastAtOnePlace() {
        due.faultOf("99", 1, 0);
        due.faultOf("steer 0 99 for 1;", 1, 8);
        due.faultOf("steer 0 until 99 for 1;", 1, 14);
        due.faultOf("steer 0 until birds 99 for 1;", 1, 20);
        due.faultOf("steer 0 for 1 99;", 1, 14);
        due.faultOf("steer 999 for 1;", 1, 6);
        due.faultOf("steer 0 for 1;".repeat(12) + "99", 1, 168);
        due.faultOf("steer steer 0 for 1;", 1, 6);
        due.faultOf("steer 0 for 1;".repeat(11) + "steer 0 for 1 steer", 1, 168);
    }

    // Promise 19: NONE: it is not SURE; NONE: it never LANDS; NONE - 1 for another what.

    private void sureOfAnotherWhat() {
        int[] wrong = {-1, 3, 4, MIN, MAX};
        for (int what : wrong) {
            scene.changesNothing("19: sure(" + what + ")", x -> x.sure(what), -2);
        }
    }

    private void sureIs(String of, CanoeMaster x, int longest, int shortest, int unsure) {
        due.is("19: " + of + ": LONGEST", x.sure(0), longest);
        due.is("19: " + of + ": SHORTEST", x.sure(1), shortest);
        due.is("19: " + of + ": not SURE", x.sure(2), unsure);
    }

    /** A sea of 8 by 2 whose column 0 is LAND; a canoe may be so many CELLS off. */
    private static CanoeMaster rowOff(int off, String chant) {
        CanoeMaster x = new CanoeMaster();
        x.sea(8, 2);
        x.land(0, 0);
        x.land(8, 0);
        x.begin(1L << off);
        Texts.chant(x, chant);
        return x;
    }

    private void sureWithoutLines() {
        sureIs("no CHANT, at sea", rowOff(1, ""), -1, -1, 1);
        sureIs("no CHANT, on LAND", rowOff(0, ""), 0, 0, 0);
        CanoeMaster x = rowOff(1, "");
        x.begin(0b11);
        sureIs("no CHANT, here and there", x, -1, 0, 1);
    }

    private void sureOnLandInNoHours() {
        sureIs("on LAND it is over", rowOff(0, "steer 5 for 20;"), 0, 0, 0);
        sureIs("LAND comes ahead of a SIGN", rowOff(0, "steer 5 until swell 0 for 20;"), 0, 0, 0);
    }

    private void sureForOneHour() {
        sureIs("N 1", rowOff(1, "steer 3 for 1;"), 1, 1, 0);
        sureIs("N 1, an HOUR too few", rowOff(2, "steer 3 for 1;"), -1, -1, 1);
        sureIs("N 1 twice", rowOff(2, "steer 3 for 1; steer 3 for 1;"), 2, 2, 0);
    }

    private void sureForTwentyHours() {
        sureIs("N 20, then an HOUR", rowOff(1, "steer 4 for 20; steer 3 for 1;"), 21, 21, 0);
        sureIs("N 20 is over after 20", rowOff(1, "steer 4 for 19; steer 4 for 1; steer 5 for 1; steer 3 for 2;"), 23, 23, 0);
    }

    private void sureToTheLastHourOfTheLastLine() {
        String waiting = "steer 4 for 20;".repeat(11);
        sureIs("12 LINES of 20 HOURS", rowOff(7, waiting + "steer 3 for 20;"), 227, 227, 0);
        sureIs("landed in the last HOUR", rowOff(7, waiting + "steer 3 for 7;"), 227, 227, 0);
        sureIs("behind the last LINE it is over", rowOff(7, waiting + "steer 3 for 6;"), -1, -1, 1);
        sureIs("in the last of 240 HOURS", everyThirdHour(waiting + "steer 3 for 20;"), 240, 240, 0);
        sureIs("an HOUR too few of 240", everyThirdHour(waiting + "steer 3 for 19;"), -1, -1, 1);
    }

    /** In WATCHES 2 and 5 alone a canoe that STEERS to the LAND comes a CELL nearer. */
    private static CanoeMaster everyThirdHour(String chant) {
        CanoeMaster x = rowOff(7, chant);
        for (int watch = 0; watch < 6; watch++) {
            x.drifts(watch, watch % 3 == 2 ? 1 << 4 : 1 << 5);
        }
        return x;
    }

    private void sureSignAtOnce() {
        sureIs("its SIGN is there at once", rowOff(1, "steer 5 until swell 0 for 20; steer 3 for 1;"), 1, 1, 0);
        sureIs("its SIGN is not there", rowOff(1, "steer 5 until swell 1 for 1; steer 3 for 2;"), 3, 3, 0);
        sureIs("its SIGN is there in the last LINE", rowOff(1, "steer 3 until swell 0 for 20;"), -1, -1, 1);
    }

    private void sureSignAtTheEndOfALine() {
        CanoeMaster x = rowOff(3, "steer 3 until swell 1 for 2; steer 3 until swell 1 for 1; steer 3 for 1;");
        sureIs("the LINES go on without a SIGN", x, 3, 3, 0);
        x.swell(1, 1);
        sureIs("a SIGN at the end of one LINE ends the next too", x, 3, 3, 0);
        Texts.chant(x, "steer 3 until swell 1 for 2; steer 3 until swell 1 for 1;");
        sureIs("and then it is over", x, -1, -1, 1);
        x.swell(1, 0);
        sureIs("without the SIGN it is not", x, 3, 3, 0);
    }

    private void sureLinesLeftOut() {
        String left = "steer 5 until swell 0 for 20;";
        sureIs("11 LINES left out", rowOff(1, left.repeat(11) + "steer 3 for 1;"), 1, 1, 0);
        sureIs("12 LINES left out", rowOff(1, left.repeat(12)), -1, -1, 1);
    }

    private void sureOverTheDay() {
        CanoeMaster x = rowOff(1, "steer 4 until star 0 for 20; steer 3 for 1;");
        x.watches(1, 0);
        sureIs("a star in WATCH 0, from HOUR 0", x, 1, 1, 0);
        for (int hour = 1; hour <= 13; hour++) {
            x.steer(4, 4);
            int wait = (6 - hour % 6) % 6;
            sureIs("a star in WATCH 0, from HOUR " + hour, x, wait + 1, wait + 1, 0);
        }
        x = rowOff(1, "steer 4 until birds for 20; steer 3 for 1;");
        x.land(0, 1);
        x.watches(0, 1 << 5);
        sureIs("BIRDS in WATCH 5, from HOUR 0", x, 6, 6, 0);
    }

    private void sureOfEachSignNumber() {
        for (int n = 0; n <= 3; n++) {
            CanoeMaster x = new CanoeMaster();
            x.sea(2, 8);
            x.watches(63, 0);
            Texts.chant(x, "steer 4 until star " + n + " for 9; steer 3 for 1;");
            for (int y = 0; y < 8; y++) {
                x.land(2 * y, 0);
                due.is("20: until star " + n + " in row " + y, x.from(2 * y + 1), n == y / 2 ? 1 : 10);
            }
            x = rowOff(1, "steer 4 until swell " + n + " for 9; steer 3 for 1;");
            for (int v = 0; v <= 3; v++) {
                x.swell(1, v);
                due.is("19: until swell " + n + " in SWELL " + v, x.sure(0), n == v ? 1 : 10);
            }
        }
        CanoeMaster byDay = rowOff(1, "steer 4 until star 0 for 9; steer 3 for 1;");
        due.is("19: until star 0 by day", byDay.sure(0), 10);
    }

    private void sureByEachDrift() {
        for (int drift = 0; drift <= 8; drift++) {
            CanoeMaster x = new CanoeMaster();
            x.sea(3, 3);
            for (int cell = 0; cell < 9; cell++) {
                x.land(cell, cell == 4 || cell == drift ? -1 : 0);
            }
            x.begin(1 << 4);
            Texts.chant(x, "steer 4 for 1;");
            x.drifts(0, 511 & ~(1 << 4) & ~(1 << drift));
            sureIs("all but DRIFT " + drift + " land it", x, 1, 1, 0);
            x.drifts(0, 511 & ~(1 << 4));
            sureIs("DRIFT " + drift + " does not", x, drift == 4 ? 1 : -1, 1, drift == 4 ? 0 : 1);
            x.drifts(0, 1 << drift);
            sureIs("DRIFT " + drift + " alone", x, -1, -1, 1);
        }
    }

    private void sureInEachWatch() {
        CanoeMaster x = new CanoeMaster();
        x.sea(8, 8);
        x.land(63, 0);
        Texts.chant(x, "steer 8 for 7;");
        for (int hour = 0; hour <= 6; hour++) {
            sureIs("all of 64 from HOUR " + hour, x, 7, 0, 0);
            due.is("20: from(0) from HOUR " + hour, x.from(0), 7);
            x.steer(4, 4);
        }
    }

    private void sureAfterEachChange() {
        CanoeMaster x = rowOff(2, "steer 4 until birds for 20; steer 4 until star 0 for 20; steer 3 until swell 1 for 2;");
        sureIs("at first", x, 42, 42, 0);
        x.watches(1, 0);
        sureIs("with a star in WATCH 0", x, 26, 26, 0);
        x.watches(1, 1);
        sureIs("with FLIGHT too, but no REACH", x, 26, 26, 0);
        x.land(0, 2);
        sureIs("with a REACH", x, 2, 2, 0);
        x.swell(1, 1);
        sureIs("with a SWELL on the way", x, -1, -1, 1);
        x.drifts(0, 1 << 3);
        sureIs("with a DRIFT over it", x, 1, 1, 0);
        x.begin(1 << 1);
        sureIs("with another RECKONED", x, -1, -1, 1);
        Texts.chant(x, "steer 4 for 1;");
        sureIs("with another CHANT", x, 1, 1, 0);
        x.sea(8, 2);
        sureIs("in another sea", x, -1, -1, 16);
    }

    private void sureNeverOrPerhaps() {
        CanoeMaster x = rowOff(3, "steer 3 for 2;");
        x.drifts(0, 1 << 3 | 1 << 4);
        sureIs("one DRIFT lands it, one does not", x, -1, 2, 1);
        x.drifts(1, 1 << 3);
        sureIs("in the second HOUR both do", x, 2, 2, 0);
        x.drifts(0, 1 << 5);
        x.drifts(1, 1 << 5);
        sureIs("none lands it", x, -1, -1, 1);
        x.drifts(0, 511);
        x.drifts(1, 511);
        sureIs("all nine DRIFTS", x, -1, 2, 1);
    }

    private void sureCountsTheCells() {
        CanoeMaster x = rowOff(1, "steer 3 for 2;");
        x.begin(0xffffL);
        sureIs("of all CELLS", x, -1, 0, 10);
        x.begin(0xf8f8L);
        sureIs("of the far ones", x, -1, -1, 10);
        x.begin(0x0707L);
        sureIs("of the near ones", x, 2, 0, 0);
        x.begin(0x0606L);
        sureIs("of the near ones at sea", x, 2, 1, 0);
        x.sea(8, 8);
        x.land(63, 0);
        Texts.chant(x, "steer 8 for 6;");
        sureIs("of 64", x, -1, 0, 15);
    }

    // Promise 20: NONE: it is not; NONE - 1: no such CELL.

    private void fromNoCell() {
        for (int cell : Scene.NO_CELLS) {
            scene.changesNothing("20: from(" + cell + ")", x -> x.from(cell), -2);
        }
        withoutChant.changesNothing("20: from(20) without a CHANT", x -> x.from(20), -2);
        CanoeMaster x = new CanoeMaster();
        x.sea(8, 8);
        due.is("20: from(64) in the largest sea", x.from(64), -2);
        due.is("20: from(63) in the largest sea", x.from(63), -1);
    }

    private void fromFirstAndLast() {
        CanoeMaster x = new CanoeMaster();
        x.sea(8, 8);
        x.land(63, 0);
        Texts.chant(x, "steer 8 for 7;");
        due.is("20: from(0)", x.from(0), 7);
        due.is("20: from(62)", x.from(62), 1);
        due.is("20: from(63) on LAND", x.from(63), 0);
        Texts.chant(x, "steer 8 for 6;");
        due.is("20: from(0): it is not SURE", x.from(0), -1);
        due.is("20: from(9)", x.from(9), 6);
    }

    private void fromWhatIsNotReckoned() {
        CanoeMaster x = rowOff(7, "steer 3 for 6;");
        due.is("20: from(6), which is not RECKONED", x.from(6), 6);
        due.is("20: from(7), which is", x.from(7), -1);
        due.is("20: RECKONED stays", x.reckoned(), 1 << 7);
        x.drifts(1, 1 << 5);
        due.is("20: from(6) from HOUR 0 on", x.from(6), -1);
        due.is("20: from(1) from HOUR 0 on", x.from(1), 1);
        x.steer(4, 4);
        due.is("20: from(1) from HOUR 1 on", x.from(1), 2);
        due.is("20: from(5) from HOUR 1 on", x.from(5), 6);
    }

    // Promise 21: NONE: no TRUE canoe, no such LINE.

    private void singsWithoutCanoe() {
        withoutCanoe.changesNothing("21: sings(0) without a canoe", x -> x.sings(0), -1);
        withoutCanoe.changesNothing("21: sings(2) without a canoe", x -> x.sings(2), -1);
    }

    private void singsNoSuchLine() {
        int[] wrong = {-1, 2, 3, 11, 12, 13, MIN, MAX};
        for (int line : wrong) {
            scene.changesNothing("21: sings(" + line + ")", x -> x.sings(line), -1);
        }
        withoutChant.changesNothing("21: sings(0) without a CHANT", x -> x.sings(0), -1);
        Scene onLand = new Scene(due, x -> x.put(7));
        onLand.changesNothing("21: sings(2) on LAND", x -> x.sings(2), -1);
        onLand.changesNothing("21: sings(-1) on LAND", x -> x.sings(-1), -1);
    }

    private void singsFirstAndLastLine() {
        CanoeMaster x = new CanoeMaster();
        x.put(0);
        Texts.chant(x, "steer 8 for 1;" + "steer 4 for 1;".repeat(10) + "steer 0 for 1;");
        due.is("21: sings(0)", x.sings(0), 8);
        due.is("21: sings(11)", x.sings(11), 0);
        due.is("21: sings(12)", x.sings(12), -1);
    }

    private void singsOnLand() {
        CanoeMaster x = scene.made();
        x.put(7);
        due.is("21: on LAND: sings(0)", x.sings(0), 9);
        due.is("21: on LAND, with its SIGN there: sings(1)", x.sings(1), 9);
        x.land(7, -1);
        due.is("21: LAND no more", x.sings(0), 3);
    }

    private void singsOver() {
        CanoeMaster x = scene.made();
        due.is("21: BIRDS end the last LINE: sings(1)", x.sings(1), 10);
        due.is("21: SWELL 3 is not there: sings(0)", x.sings(0), 3);
        x.swell(8, 3);
        due.is("21: both are there: sings(0)", x.sings(0), 10);
        x.watches(0, 0);
        due.is("21: BIRDS are not any more: sings(0)", x.sings(0), 1);
        x.end(0);
        Texts.chant(x, "steer 5 until swell 3 for 1;".repeat(12));
        due.is("21: 12 LINES left out: sings(0)", x.sings(0), 10);
        due.is("21: the 12th left out: sings(11)", x.sings(11), 10);
    }

    // Promise 22: NONE: there is none within 12; NONE - 1: SPENT, or another what.

    private void blindOfAnotherWhat() {
        int[] wrong = {-1, 1, 2, 9, 22, 23, 100, MIN, MIN + 9, MIN + 10, MAX};
        for (int what : wrong) {
            due.is("22: blind(" + what + ") with a row", rowOff(2, "").blind(what), -2);
            due.is("22: blind(" + what + ") with none", new CanoeMaster().blind(what), -2);
            due.is("22: blind(" + what + ") SPENT", spent().blind(what), -2);
        }
    }

    private void blindOfNoHours() {
        CanoeMaster x = rowOff(0, "");
        due.is("22: all on LAND: blind(0)", x.blind(0), 0);
        due.is("22: all on LAND: blind(10)", x.blind(10), -2);
        due.is("22: all on LAND: blind(21)", x.blind(21), -2);
        x.begin(0x101L);
        due.is("22: on both LANDS: blind(0)", x.blind(0), 0);
        x.begin(0x103L);
        due.is("22: but for one CELL: blind(0)", x.blind(0), 1);
    }

    private void blindBehindTheRow() {
        for (int hours = 1; hours <= 7; hours++) {
            CanoeMaster x = rowOff(hours, "");
            due.is("22: blind(0) from " + hours, x.blind(0), hours);
            for (int i = 0; i < hours; i++) {
                due.is("22: blind(" + (10 + i) + ") from " + hours, x.blind(10 + i), 0);
            }
            due.is("22: blind(" + (10 + hours) + ") from " + hours, x.blind(10 + hours), -2);
        }
    }

    /** In WATCH 5 alone a canoe that STEERS to the LAND comes a CELL nearer. */
    private static CanoeMaster onceADay(int off, int hour) {
        CanoeMaster x = rowOff(off, "");
        for (int watch = 0; watch < 5; watch++) {
            x.drifts(watch, 1 << 5);
        }
        for (int i = 0; i < hour; i++) {
            x.steer(3, 5);
        }
        return x;
    }

    private void blindOfTwelveHours() {
        CanoeMaster x = onceADay(2, 0);
        due.is("22: a row of 12: blind(0)", x.blind(0), 12);
        for (int i = 0; i < 12; i++) {
            due.is("22: a row of 12: blind(" + (10 + i) + ")", x.blind(10 + i), 0);
        }
        due.is("22: a row of 12: blind(22)", x.blind(22), -2);
    }

    private void blindWithinTwelveAtMost() {
        for (int hour = 0; hour < 6; hour++) {
            for (int off = 1; off <= 4; off++) {
                CanoeMaster x = onceADay(off, hour);
                int hours = 6 * off - hour;
                String from = " from " + off + " CELLS off at HOUR " + hour;
                due.is("22: blind(0)" + from, x.blind(0), hours <= 12 ? hours : -1);
                due.is("22: blind(10)" + from, x.blind(10), hours <= 12 ? 0 : -1);
                due.is("22: blind(21)" + from, x.blind(21), hours == 12 ? 0 : hours < 12 ? -2 : -1);
            }
        }
    }

    private void blindOfManyWays() {
        rowIs(0, 21, 2, 2, 2, 8, 8);
        rowIs(8, 27, 5, 8, 8);
        rowIs(63, 42, 0, 0, 0, 3, 6);
        rowIs(24, 46, 2, 2, 8, 8, 8, 8);
    }

    /** Of the shortest the first by its WAYS, in a sea of 8 by 8 with one LAND. */
    private void rowIs(int from, int land, int... ways) {
        CanoeMaster x = new CanoeMaster();
        x.sea(8, 8);
        x.land(land, 0);
        x.begin(1L << from);
        due.is("22: blind(0) from " + from + " to " + land, x.blind(0), ways.length);
        for (int i = 0; i < ways.length; i++) {
            due.is("22: blind(" + (10 + i) + ") from " + from + " to " + land, x.blind(10 + i), ways[i]);
        }
    }

    private void blindOverTheDay() {
        CanoeMaster x = onceADay(2, 0);
        for (int hour = 0; hour <= 13; hour++) {
            due.is("22: blind(0) at HOUR " + hour, x.blind(0), 12 - hour % 6);
            boolean nearer = hour % 6 == 5;
            x.steer(nearer ? 4 : 3, nearer ? 4 : 5);
        }
    }

    private void blindAfterEachChange() {
        CanoeMaster x = rowOff(3, "");
        due.is("22: at first", x.blind(0), 3);
        x.drifts(1, 1 << 5);
        due.is("22: with a DRIFT", x.blind(0), 4);
        x.land(1, 0);
        due.is("22: with a LAND that is nearer", x.blind(0), 3);
        x.land(2, 0);
        due.is("22: and one nearer still", x.blind(0), 1);
        x.land(2, -1);
        due.is("22: which is none any more", x.blind(0), 3);
        x.begin(1 << 2);
        due.is("22: with another RECKONED", x.blind(0), 1);
        x.sea(8, 2);
        due.is("22: in another sea", x.blind(0), -1);
    }

    private static CanoeMaster spent() {
        CanoeMaster x = new CanoeMaster();
        x.sea(8, 8);
        x.land(27, 0);
        for (int watch = 0; watch < 6; watch++) {
            x.drifts(watch, 1 << 1 | 1 << 3 | 1 << 4);
        }
        return x;
    }

    private void blindSpent() {
        CanoeMaster x = spent();
        due.is("22: SPENT: blind(0)", x.blind(0), -2);
        for (int i = 0; i < 12; i++) {
            due.is("22: SPENT: blind(" + (10 + i) + ")", x.blind(10 + i), -2);
        }
    }

    private void blindChangesNothing() {
        int[][] answers = {{0, 4}, {14, -2}, {21, -2}, {22, -2}};
        for (int[] a : answers) {
            scene.changesNothing("22: blind(" + a[0] + ")", x -> x.blind(a[0]), a[1]);
        }
    }
}
