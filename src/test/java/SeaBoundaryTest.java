/** Promises 1 to 14: each sentence that names a boundary case has a test of its own. */
public final class SeaBoundaryTest {
    private static final int MIN = Integer.MIN_VALUE;
    private static final int MAX = Integer.MAX_VALUE;

    private final Due due = new Due();
    private final Scene scene = new Scene(due);
    private final Scene withoutCanoe = new Scene(due, x -> {
        x.begin(1L << 6 | 1L << 7 | 1L << 8);
        x.steer(4, 4);
    });
    private final Scene largest = new Scene(due, x -> {
        x.sea(8, 8);
        x.land(63, 3);
        x.steer(3, 4);
        x.put(62);
    });

    public static void main(String[] args) {
        SeaBoundaryTest test = new SeaBoundaryTest();
        test.sceneIsAsItSays();
        test.newObjects();
        test.seas();
        test.lands();
        test.swells();
        test.driftSets();
        test.watchSets();
        test.looks();
        test.reckonings();
        test.begins();
        test.puts();
        test.steerings();
        test.signs();
        test.sightings();
        test.due.finish();
    }

    private void newObjects() {
        newObjectHasNothing();
        newObjectKnowsNoOther();
        lastPromisedCall();
    }

    private void seas() {
        seaTooSmall();
        seaTooLarge();
        seaOfEachSize();
        seaIsAllAsAtFirst();
        seaForgetsCellsThatWereCutOff();
        seaLeavesNoBirds();
        seaKeepsTheChant();
    }

    private void lands() {
        landOfNoCell();
        landOfNoReach();
        landOfLeastAndMost();
        landIsNoneAnyMore();
        landIsNoneAgain();
        landEverywhere();
    }

    private void swells() {
        swellOfNoCell();
        swellTooSmallOrLarge();
        swellOfLeastAndMost();
    }

    private void driftSets() {
        driftsOfNoWatch();
        driftsEmpty();
        driftsWithWhatIsNoWay();
        driftsOfLeastAndMost();
    }

    private void watchSets() {
        watchesWithWhatIsNone();
        watchesEmptyAndFull();
    }

    private void looks() {
        lookAtNoneSuch();
        lookAtFirstAndLast();
        lookAtNoCanoe();
        lookAtLandReckoned();
    }

    private void reckonings() {
        reckonedFull();
        reckonedAtTheHighestBit();
    }

    private void begins() {
        beginEmpty();
        beginWithWhatIsNoCell();
        beginWithOneAndAll();
        beginTakesHourAndCanoe();
    }

    private void puts() {
        putWhereItIsNotReckoned();
        putInNoCell();
        putInFirstAndLast();
    }

    private void steerings() {
        steerNoSuchWay();
        steerNoSuchDrift();
        steerDriftOfAnotherWatch();
        steerEachWay();
        steerAtTheLastHour();
        steerSixHoursAreADay();
        steerToTheEdgesAtMost();
        steerBothAtOnce();
        steerOnLandStays();
        steerOverLand();
    }

    private void signs() {
        signOfNone();
        signOfFirstAndLast();
        signStarByDay();
        signStarDownwards();
        signBirdsNoFarther();
        signBirdsNotAroundTheEdge();
        signBirdsOfNoFlight();
    }

    private void sightings() {
        seeAnotherWhat();
        seeNoneLeft();
        seeTheCanoeNotLeft();
        seeLeavesThoseThatHaveIt();
        seeNoStar();
        sightsWithoutCanoe();
        sightsOfAllThree();
    }

    private static long cells(int... cells) {
        long set = 0;
        for (int cell : cells) {
            set |= 1L << cell;
        }
        return set;
    }

    private void sceneIsAsItSays() {
        CanoeMaster x = scene.made();
        int[] looks = {5, 4, 2, 6, 1, 8, 2, 14, 23};
        for (int what = 0; what < looks.length; what++) {
            due.is("scene: look(" + what + ")", x.look(what), looks[what]);
        }
        due.is("scene: reckoned()", x.reckoned(), cells(1, 6, 7, 8, 12, 13));
        due.is("scene: fault(0)", x.fault(0), 2);
        due.is("scene: fault(1)", x.fault(1), 6);
        due.is("scene: end(21)", x.end(21), -1);
        due.is("scene: end(20)", x.end(20), 20);
        due.is("scene: chant()", x.chant(), 1);
    }

    // Promise 1: a sea of 4 by 4, without LAND; RECKONED is all of it, HOUR 0; no NIGHT, no FLIGHT, no CHANT.

    private void newObjectHasNothing() {
        CanoeMaster x = new CanoeMaster();
        due.is("1: without LAND", x.look(4), 0);
        due.is("1: RECKONED is all of it", x.reckoned(), 0xffffL);
        due.is("1: no TRUE canoe: sights()", x.sights(), -1);
        due.is("1: no NIGHT, no FLIGHT", x.look(7) == 0 && x.look(8) == 0, true);
        due.is("1: no CHANT: look(6)", x.look(6), 0);
        x.put(0);
        due.is("1: no CHANT: sings(0)", x.sings(0), -1);
        due.is("1: no CHANT: sure(2)", x.sure(2), 16);
        due.is("1: an empty TAPE: end(1)", x.end(1), -1);
        due.is("1: an empty TAPE: feed", x.feed(0, 0, 0, 0, 0), 20);
    }

    private void newObjectKnowsNoOther() {
        CanoeMaster first = new CanoeMaster();
        scene.made();
        largest.made();
        due.is("1: another object changes nothing", Scene.told(first), Scene.told(new CanoeMaster()));
    }

    private void lastPromisedCall() {
        CanoeMaster x = new CanoeMaster();
        for (int call = 1; call <= 511; call++) {
            x.steer(8, 4);
        }
        due.is("the 512th call", x.look(2), 511);
    }

    // Promise 2: false, and nothing is done, if that can't be; W and H are 2 .. 8 each.

    private void seaTooSmall() {
        int[][] small = {{1, 4}, {4, 1}, {0, 4}, {4, 0}, {-1, 4}, {4, -1}, {1, 1}, {1, 8}, {-4, -4}, {MIN, 4}, {4, MIN}};
        for (int[] s : small) {
            scene.refuses("2: sea(" + s[0] + ", " + s[1] + ")", x -> x.sea(s[0], s[1]));
        }
    }

    private void seaTooLarge() {
        int[][] large = {{9, 4}, {4, 9}, {9, 9}, {2, 32}, {16, 2}, {9, 1}, {MAX, 4}, {4, MAX}, {65540, 65540}};
        for (int[] s : large) {
            scene.refuses("2: sea(" + s[0] + ", " + s[1] + ")", x -> x.sea(s[0], s[1]));
        }
    }

    private void seaOfEachSize() {
        CanoeMaster x = new CanoeMaster();
        for (int w = 2; w <= 8; w++) {
            for (int h = 2; h <= 8; h++) {
                String of = "2: of sea(" + w + ", " + h + "): ";
                due.is(of + "it is made", x.sea(w, h), true);
                due.is(of + "W and H", 10 * x.look(0) + x.look(1), 10 * w + h);
                due.is(of + "all CELLS are RECKONED", x.look(3), w * h);
                due.is(of + "the last CELL", x.look(100 + w * h - 1), -1);
                due.is(of + "the one behind", x.look(100 + w * h), -2);
            }
        }
    }

    private void seaIsAllAsAtFirst() {
        int[][] sizes = {{5, 4}, {4, 4}, {2, 2}, {8, 8}};
        for (int[] s : sizes) {
            CanoeMaster used = scene.made();
            used.sure(0);
            used.blind(0);
            used.sea(s[0], s[1]);
            CanoeMaster unused = new CanoeMaster();
            unused.sea(s[0], s[1]);
            Scene.setTexts(unused);
            due.is("2: all as at first in sea(" + s[0] + ", " + s[1] + ")", Scene.told(used), Scene.told(unused));
        }
        CanoeMaster fresh = new CanoeMaster();
        CanoeMaster again = new CanoeMaster();
        again.steer(0, 4);
        again.sea(4, 4);
        due.is("2: sea(4, 4) is that of a new object", Scene.told(again), Scene.told(fresh));
    }

    private void seaForgetsCellsThatWereCutOff() {
        CanoeMaster x = largest.made();
        x.swell(63, 3);
        x.sea(2, 2);
        x.sea(8, 8);
        due.is("2: LAND behind the smaller sea", x.look(163), -1);
        due.is("2: SWELL behind the smaller sea", x.look(263), 0);
        due.is("2: no LAND", x.look(4), 0);
    }

    private void seaLeavesNoBirds() {
        CanoeMaster x = largest.made();
        x.watches(63, 63);
        due.is("2: BIRDS of its LAND", x.sign(36, 0, 2), 1);
        x.sea(8, 8);
        x.watches(63, 63);
        for (int cell = 0; cell < 64; cell++) {
            due.is("2: no LAND, no BIRDS at " + cell, x.sign(cell, 0, 2), 0);
        }
    }

    private void seaKeepsTheChant() {
        CanoeMaster x = scene.made();
        x.sea(2, 8);
        x.land(0, 3);
        x.put(1);
        due.is("2: the CHANT stays: look(6)", x.look(6), 2);
        due.is("2: the CHANT stays: sings(0)", x.sings(0), 3);
        due.is("2: the CHANT stays: from(1)", x.from(1), 1);
        due.is("2: the CHANT stays: from(15)", x.from(15), 9);
    }

    // Promise 3: false, and nothing is done, if one can't be; REACH 0 .. 3, -1: it is none.

    private void landOfNoCell() {
        for (int cell : Scene.NO_CELLS) {
            scene.refuses("3: land(" + cell + ", 0)", x -> x.land(cell, 0));
            scene.refuses("3: land(" + cell + ", -1)", x -> x.land(cell, -1));
        }
        largest.refuses("3: land(64, 1) in the largest sea", x -> x.land(64, 1));
    }

    private void landOfNoReach() {
        int[] wrong = {-2, 4, 5, MIN, MAX, 256, -256};
        for (int reach : wrong) {
            scene.refuses("3: land(0, " + reach + ")", x -> x.land(0, reach));
            scene.refuses("3: land(7, " + reach + ") of what is LAND", x -> x.land(7, reach));
        }
    }

    private void landOfLeastAndMost() {
        CanoeMaster x = new CanoeMaster();
        x.sea(8, 8);
        int[] cells = {0, 63};
        for (int cell : cells) {
            for (int reach = 0; reach <= 3; reach++) {
                due.is("3: land(" + cell + ", " + reach + ")", x.land(cell, reach), true);
                due.is("3: look(" + (100 + cell) + ")", x.look(100 + cell), reach);
            }
        }
        due.is("3: two are LAND", x.look(4), 2);
        x.sea(2, 2);
        due.is("3: land(3, 0) in the smallest sea", x.land(3, 0), true);
        due.is("3: land(4, 0) in the smallest sea", x.land(4, 0), false);
    }

    private void landIsNoneAnyMore() {
        CanoeMaster x = scene.made();
        due.is("3: land(7, -1)", x.land(7, -1), true);
        due.is("3: look(107)", x.look(107), -1);
        due.is("3: none of RECKONED is LAND", x.look(4), 0);
        due.is("3: its birds are gone", x.sign(7, 2, 2), 0);
        due.is("3: the other LAND is left", x.look(118), 0);
        x.steer(4, 7);
        due.is("3: it holds no canoe any more", x.reckoned(), cells(1, 6, 7, 8, 11, 12, 13, 17, 18));
    }

    private void landIsNoneAgain() {
        CanoeMaster x = scene.made();
        due.is("3: land(0, -1) of what is none", x.land(0, -1), true);
        due.is("3: land(0, -1): what stays", Scene.told(x), Scene.told(scene.made()));
    }

    private void landEverywhere() {
        CanoeMaster x = new CanoeMaster();
        for (int cell = 0; cell < 16; cell++) {
            x.land(cell, 0);
        }
        due.is("3: all is LAND", x.look(4), 16);
        due.is("3: nothing moves", x.steer(0, 4), 16);
        due.is("3: all has landed", x.sure(0), 0);
        due.is("3: BEST is of no HOURS", x.blind(0), 0);
    }

    // Promise 4: false likewise; SWELL 0 .. 3.

    private void swellOfNoCell() {
        for (int cell : Scene.NO_CELLS) {
            scene.refuses("4: swell(" + cell + ", 1)", x -> x.swell(cell, 1));
        }
        largest.refuses("4: swell(64, 1) in the largest sea", x -> x.swell(64, 1));
    }

    private void swellTooSmallOrLarge() {
        int[] wrong = {-1, -2, 4, 5, MIN, MAX, 256, 258};
        for (int v : wrong) {
            scene.refuses("4: swell(8, " + v + ")", x -> x.swell(8, v));
        }
    }

    private void swellOfLeastAndMost() {
        CanoeMaster x = new CanoeMaster();
        x.sea(8, 8);
        for (int v = 3; v >= 0; v--) {
            due.is("4: swell(0, " + v + ")", x.swell(0, v), true);
            due.is("4: swell(63, " + (3 - v) + ")", x.swell(63, 3 - v), true);
            due.is("4: look(200)", x.look(200), v);
            due.is("4: look(263)", x.look(263), 3 - v);
        }
        due.is("4: the next CELL's stays", x.look(201) + x.look(262), 0);
    }

    // Promise 5: false likewise; WATCHES 0 .. 5, a set of WAYS 0 .. 8, not empty.

    private void driftsOfNoWatch() {
        int[] wrong = {-1, 6, 7, 32, 34, -30, MIN, MAX};
        for (int watch : wrong) {
            scene.refuses("5: drifts(" + watch + ", 2)", x -> x.drifts(watch, 2));
        }
    }

    private void driftsEmpty() {
        for (int watch = 0; watch < 6; watch++) {
            int of = watch;
            scene.refuses("5: drifts(" + watch + ", 0)", x -> x.drifts(of, 0));
        }
    }

    private void driftsWithWhatIsNoWay() {
        int[] wrong = {512, 513, 1023, 528, 1 << 30, -1, -512, MIN, MIN + 16, MAX};
        for (int set : wrong) {
            scene.refuses("5: drifts(2, " + set + ")", x -> x.drifts(2, set));
        }
    }

    private void driftsOfLeastAndMost() {
        CanoeMaster x = new CanoeMaster();
        for (int watch = 0; watch < 6; watch++) {
            due.is("5: at first that of 4 alone", x.look(10 + watch), 16);
        }
        int[] sets = {1, 2, 255, 256, 510, 511};
        for (int set : sets) {
            due.is("5: drifts(0, " + set + ")", x.drifts(0, set), true);
            due.is("5: drifts(5, " + set + ")", x.drifts(5, 512 - set), true);
            due.is("5: look(10)", x.look(10), set);
            due.is("5: look(15)", x.look(15), 512 - set);
        }
        due.is("5: the next WATCH's stay", x.look(11) == 16 && x.look(14) == 16, true);
        x.steer(4, 8);
        due.is("5: all nine of 0 .. 8 drift", x.look(3), 16);
    }

    // Promise 6: false likewise; sets of WATCHES 0 .. 5.

    private void watchesWithWhatIsNone() {
        int[] wrong = {-1, 64, 65, 127, 1 << 30, -64, MIN, MAX};
        for (int set : wrong) {
            scene.refuses("6: watches(" + set + ", 1)", x -> x.watches(set, 1));
            scene.refuses("6: watches(1, " + set + ")", x -> x.watches(1, set));
        }
    }

    private void watchesEmptyAndFull() {
        CanoeMaster x = scene.made();
        int[][] sets = {{0, 0}, {63, 63}, {0, 63}, {63, 0}, {1, 32}, {32, 1}};
        for (int[] s : sets) {
            due.is("6: watches(" + s[0] + ", " + s[1] + ")", x.watches(s[0], s[1]), true);
            due.is("6: NIGHT", x.look(7), s[0]);
            due.is("6: FLIGHT", x.look(8), s[1]);
        }
        due.is("6: NIGHT is WATCH 5 alone", x.sign(19, 5, 1) == 1 && x.sign(19, 4, 1) == -1 && x.sign(19, 0, 1) == -1, true);
        due.is("6: FLIGHT is WATCH 0 alone", x.sign(7, 0, 2) == 1 && x.sign(7, 1, 2) == 0 && x.sign(7, 5, 2) == 0, true);
    }

    // Promise 7: NONE - 1 if there is none such.

    private void lookAtNoneSuch() {
        int[] none = {-1, MIN, 9, 16, 17, 99, 120, 163, 199, 220, 263, 299, 300, 1000, MAX};
        for (int what : none) {
            scene.changesNothing("7: look(" + what + ")", x -> x.look(what), -2);
        }
        largest.changesNothing("7: look(164) in the largest sea", x -> x.look(164), -2);
        largest.changesNothing("7: look(264) in the largest sea", x -> x.look(264), -2);
    }

    private void lookAtFirstAndLast() {
        CanoeMaster x = scene.made();
        due.is("7: look(0)", x.look(0), 5);
        due.is("7: look(8)", x.look(8), 23);
        due.is("7: look(10)", x.look(10), 1 << 4 | 1 << 5);
        due.is("7: look(15)", x.look(15), 1);
        due.is("7: look(100)", x.look(100), -1);
        due.is("7: look(119)", x.look(119), -1);
        due.is("7: look(200)", x.look(200), 0);
        due.is("7: look(219)", x.look(219), 0);
        x = largest.made();
        due.is("7: look(163)", x.look(163), 3);
        due.is("7: look(263)", x.look(263), 0);
    }

    private void lookAtNoCanoe() {
        due.is("7: NONE: no TRUE canoe", withoutCanoe.made().look(5), -1);
        CanoeMaster x = new CanoeMaster();
        x.put(0);
        due.is("7: the TRUE canoe in CELL 0", x.look(5), 0);
    }

    private void lookAtLandReckoned() {
        CanoeMaster x = scene.made();
        due.is("7: LAND that is not RECKONED is not counted", x.look(4), 1);
        x.begin(1L << 18 | 1L << 7);
        due.is("7: all of RECKONED is LAND", x.look(4), 2);
        x.begin(1);
        due.is("7: none of RECKONED is LAND", x.look(4), 0);
    }

    // Promise 8: CELL c counts 2 to the c.

    private void reckonedFull() {
        CanoeMaster x = new CanoeMaster();
        x.sea(8, 8);
        due.is("8: all of 64", x.reckoned(), -1L);
        due.is("8: they are 64", x.look(3), 64);
        x.sea(2, 2);
        due.is("8: all of 4", x.reckoned(), 15L);
    }

    private void reckonedAtTheHighestBit() {
        CanoeMaster x = new CanoeMaster();
        x.sea(8, 8);
        x.begin(1L << 54);
        x.steer(8, 4);
        due.is("8: CELL 63", x.reckoned(), Long.MIN_VALUE);
        x.steer(5, 4);
        due.is("8: CELL 63 at the edge", x.reckoned(), Long.MIN_VALUE);
        x.steer(1, 4);
        due.is("8: CELL 55", x.reckoned(), 1L << 55);
        x.begin(1L << 31 | 1L << 32);
        due.is("8: CELLS 31 and 32", x.reckoned(), 1L << 31 | 1L << 32);
    }

    // Promise 9: false, and nothing is done, if it is empty, or has what is no CELL.

    private void beginEmpty() {
        scene.refuses("9: begin(0)", x -> x.begin(0));
        largest.refuses("9: begin(0) in the largest sea", x -> x.begin(0));
    }

    private void beginWithWhatIsNoCell() {
        long[] wrong = {1L << 20, 1L << 20 | 1, 1L << 63, 1L << 63 | 256, 1L << 32, -1L, 0x1fffffL, Long.MAX_VALUE, ~0xfffffL};
        for (long set : wrong) {
            scene.refuses("9: begin(" + set + ")", x -> x.begin(set));
        }
    }

    private void beginWithOneAndAll() {
        CanoeMaster x = scene.made();
        long[] sets = {1, 1L << 19, 0xfffffL};
        for (long set : sets) {
            due.is("9: begin(" + set + ")", x.begin(set), true);
            due.is("9: reckoned()", x.reckoned(), set);
        }
        x.sea(8, 8);
        long[] large = {1, Long.MIN_VALUE, Long.MAX_VALUE, -1L};
        for (long set : large) {
            due.is("9: begin(" + set + ") in the largest sea", x.begin(set), true);
            due.is("9: reckoned()", x.reckoned(), set);
        }
    }

    private void beginTakesHourAndCanoe() {
        CanoeMaster x = scene.made();
        due.is("9: begin with what is RECKONED", x.begin(x.reckoned()), true);
        due.is("9: at HOUR 0", x.look(2), 0);
        due.is("9: without a TRUE canoe: look(5)", x.look(5), -1);
        due.is("9: without a TRUE canoe: sights()", x.sights(), -1);
        due.is("9: in WATCH 0: steer(4, 7)", x.steer(4, 7), -1);
        due.is("9: in WATCH 0: steer(4, 5)", x.steer(4, 5) > 0, true);
        due.is("9: the sea stays", x.look(107) == 1 && x.look(7) == 14 && x.look(208) == 2, true);
    }

    // Promise 10: false, and nothing is done, if that is not RECKONED.

    private void putWhereItIsNotReckoned() {
        int[] wrong = {0, 2, 5, 9, 11, 14, 18, 19};
        for (int cell : wrong) {
            scene.refuses("10: put(" + cell + ")", x -> x.put(cell));
        }
        withoutCanoe.refuses("10: put(0) without a canoe before", x -> x.put(0));
    }

    private void putInNoCell() {
        for (int cell : Scene.NO_CELLS) {
            scene.refuses("10: put(" + cell + ")", x -> x.put(cell));
        }
        largest.refuses("10: put(64) in the largest sea", x -> x.put(64));
        largest.refuses("10: put(-1) in the largest sea", x -> x.put(-1));
        withoutCanoe.refuses("10: put(-1) without a canoe before", x -> x.put(-1));
    }

    private void putInFirstAndLast() {
        CanoeMaster x = new CanoeMaster();
        x.sea(8, 8);
        due.is("10: put(63)", x.put(63), true);
        due.is("10: look(5)", x.look(5), 63);
        due.is("10: put(0)", x.put(0), true);
        due.is("10: look(5)", x.look(5), 0);
        due.is("10: RECKONED stays", x.reckoned(), -1L);
        x.land(9, 0);
        due.is("10: put on LAND", x.put(9), true);
        due.is("10: look(5)", x.look(5), 9);
    }

    // Promise 11: NONE, and nothing is done: no such WAY, no such DRIFT in this WATCH, or HOUR 9999.

    private void steerNoSuchWay() {
        int[] wrong = {-1, 9, 10, -5, 36, MIN, MAX};
        for (int way : wrong) {
            scene.changesNothing("11: steer(" + way + ", 4)", x -> x.steer(way, 4), -1);
            withoutCanoe.changesNothing("11: steer(" + way + ", 4) without a canoe", x -> x.steer(way, 4), -1);
        }
    }

    private void steerNoSuchDrift() {
        int[] wrong = {-1, 9, 36, 68, -28, -60, MIN, MAX};
        for (int drift : wrong) {
            scene.changesNothing("11: steer(4, " + drift + ")", x -> x.steer(4, drift), -1);
            withoutCanoe.changesNothing("11: steer(4, " + drift + ") without a canoe", x -> x.steer(4, drift), -1);
        }
    }

    private void steerDriftOfAnotherWatch() {
        int[] wrong = {0, 1, 2, 3, 5, 6, 8};
        for (int drift : wrong) {
            scene.changesNothing("11: steer(3, " + drift + ")", x -> x.steer(3, drift), -1);
        }
        withoutCanoe.changesNothing("11: steer(3, 7) in WATCH 1, without a canoe", x -> x.steer(3, 7), -1);
    }

    private void steerEachWay() {
        int[] to = {0, 1, 2, 3, 4, 5, 6, 7, 8};
        for (int way = 0; way <= 8; way++) {
            CanoeMaster x = new CanoeMaster();
            x.sea(3, 3);
            x.begin(1 << 4);
            x.put(4);
            due.is("11: steer(" + way + ", 4)", x.steer(way, 4), 1);
            due.is("11: by WAY " + way, x.look(5), to[way]);
            x.begin(1 << 4);
            x.put(4);
            x.drifts(0, 1 << way);
            due.is("11: steer(4, " + way + ")", x.steer(4, way), 1);
            due.is("11: by DRIFT " + way, x.look(5), to[way]);
            due.is("11: RECKONED by DRIFT " + way, x.reckoned(), 1L << to[way]);
        }
    }

    /** Within 512 calls no object comes to it, so this looks farther than is promised. */
    private void steerAtTheLastHour() {
        CanoeMaster x = new CanoeMaster();
        x.put(0);
        for (int hour = 0; hour < 9998; hour++) {
            x.steer(4, 4);
        }
        due.is("11: steer(5, 4) at HOUR 9998", x.steer(5, 4), 12);
        due.is("11: HOUR 9999", x.look(2), 9999);
        due.is("11: steer(5, 4) at HOUR 9999", x.steer(5, 4), -1);
        due.is("11: the HOUR stays", x.look(2), 9999);
        due.is("11: RECKONED stays", x.reckoned(), 0xeeeeL);
        due.is("11: the TRUE canoe stays", x.look(5), 1);
        x.begin(1);
        due.is("11: begin() takes it back", x.steer(5, 4), 1);
    }

    private void steerSixHoursAreADay() {
        CanoeMaster x = new CanoeMaster();
        for (int watch = 0; watch < 6; watch++) {
            x.drifts(watch, 1 << watch);
        }
        for (int hour = 0; hour < 14; hour++) {
            int drift = hour % 6;
            due.is("11: HOUR " + hour + " has no DRIFT of the next WATCH", x.steer(4, (drift + 1) % 6), -1);
            due.is("11: HOUR " + hour + " has DRIFT " + drift, x.steer(4, drift) > 0, true);
        }
        due.is("11: HOUR 14", x.look(2), 14);
    }

    private void steerToTheEdgesAtMost() {
        int[] corners = {0, 3, 16, 19};
        int[] ways = {0, 2, 6, 8};
        for (int i = 0; i < 4; i++) {
            for (int cell = 0; cell < 20; cell++) {
                CanoeMaster x = new CanoeMaster();
                x.sea(4, 5);
                int way = ways[i];
                x.drifts(0, 1 << way);
                x.begin(1L << cell);
                x.put(cell);
                x.steer(way, way);
                int toX = way % 3 == 0 ? Math.max(0, cell % 4 - 2) : Math.min(3, cell % 4 + 2);
                int toY = way / 3 == 0 ? Math.max(0, cell / 4 - 2) : Math.min(4, cell / 4 + 2);
                due.is("11: from " + cell + " by WAY and DRIFT " + way, x.look(5), 4 * toY + toX);
                due.is("11: RECKONED from " + cell + " by WAY and DRIFT " + way, x.reckoned(), 1L << 4 * toY + toX);
                x.drifts(1, 1 << way);
                x.drifts(2, 1 << way);
                x.steer(way, way);
                x.steer(way, way);
                due.is("11: it ends in the corner", x.look(5), corners[i]);
            }
        }
    }

    private void steerBothAtOnce() {
        int[][] undone = {{3, 5, 4}, {5, 3, 7}, {1, 7, 1}, {7, 1, 13}, {0, 8, 0}, {8, 0, 15}};
        for (int[] u : undone) {
            CanoeMaster x = new CanoeMaster();
            x.drifts(0, 1 << u[1]);
            x.begin(1L << u[2]);
            x.put(u[2]);
            x.steer(u[0], u[1]);
            due.is("11: at the edge, WAY " + u[0] + " is undone by DRIFT " + u[1], x.look(5), u[2]);
            due.is("11: and RECKONED likewise", x.reckoned(), 1L << u[2]);
        }
    }

    private void steerOnLandStays() {
        CanoeMaster x = new CanoeMaster();
        x.land(5, 0);
        x.drifts(0, 511);
        x.begin(1 << 5);
        x.put(5);
        due.is("11: all RECKONED is on LAND", x.steer(0, 8), 1);
        due.is("11: RECKONED stays there", x.reckoned(), 1 << 5);
        due.is("11: the TRUE canoe stays there", x.look(5), 5);
        due.is("11: the HOUR goes on", x.look(2), 1);
    }

    private void steerOverLand() {
        CanoeMaster x = new CanoeMaster();
        x.land(1, 0);
        x.drifts(0, 1 << 5);
        x.begin(1);
        x.put(0);
        x.steer(5, 5);
        due.is("11: both at once: LAND between does not hold it", x.look(5), 2);
        due.is("11: nor what is RECKONED", x.reckoned(), 1 << 2);
    }

    // Promise 12: NONE - 1 if one can't be.

    private void signOfNone() {
        for (int cell : Scene.NO_CELLS) {
            scene.changesNothing("12: sign(" + cell + ", 1, 0)", x -> x.sign(cell, 1, 0), -2);
        }
        int[] noWatches = {-1, 6, 7, 33, -31, MIN, MAX};
        for (int watch : noWatches) {
            for (int what = 0; what <= 2; what++) {
                int of = what;
                scene.changesNothing("12: sign(7, " + watch + ", " + what + ")", x -> x.sign(7, watch, of), -2);
            }
        }
        int[] noSigns = {-1, 3, 4, MIN, MAX};
        for (int what : noSigns) {
            scene.changesNothing("12: sign(7, 1, " + what + ")", x -> x.sign(7, 1, what), -2);
        }
    }

    private void signOfFirstAndLast() {
        CanoeMaster x = new CanoeMaster();
        x.sea(8, 8);
        x.swell(63, 3);
        x.watches(63, 63);
        x.land(63, 0);
        int[] watches = {0, 5};
        for (int watch : watches) {
            due.is("12: SWELL of CELL 0", x.sign(0, watch, 0), 0);
            due.is("12: SWELL of CELL 63", x.sign(63, watch, 0), 3);
            due.is("12: STAR of CELL 0", x.sign(0, watch, 1), 0);
            due.is("12: STAR of CELL 63", x.sign(63, watch, 1), 3);
            due.is("12: BIRDS of CELL 0", x.sign(0, watch, 2), 0);
            due.is("12: BIRDS of CELL 63", x.sign(63, watch, 2), 1);
        }
    }

    private void signStarByDay() {
        CanoeMaster x = new CanoeMaster();
        for (int watch = 0; watch < 6; watch++) {
            x.watches(1 << watch, 0);
            for (int other = 0; other < 6; other++) {
                due.is("12: STAR in WATCH " + other, x.sign(0, other, 1), other == watch ? 0 : -1);
            }
        }
    }

    private void signStarDownwards() {
        CanoeMaster x = new CanoeMaster();
        x.sea(2, 8);
        x.watches(1, 0);
        int[] stars = {0, 0, 1, 1, 2, 2, 3, 3};
        for (int cell = 0; cell < 16; cell++) {
            due.is("12: STAR of CELL " + cell, x.sign(cell, 0, 1), stars[cell / 2]);
        }
    }

    private void signBirdsNoFarther() {
        for (int reach = 0; reach <= 3; reach++) {
            CanoeMaster x = new CanoeMaster();
            x.sea(8, 8);
            x.watches(0, 1);
            x.land(36, reach);
            int[][] sides = {{-1, 0}, {0, -1}, {-1, -1}};
            for (int[] s : sides) {
                int at = 36 + reach * (s[0] + 8 * s[1]);
                due.is("12: at its REACH " + reach, x.sign(at, 0, 2), 1);
                due.is("12: a CELL farther than " + reach, x.sign(at + s[0] + 8 * s[1], 0, 2), 0);
            }
            due.is("12: far in y alone", x.sign(36 - reach - 8 * (reach + 1), 0, 2), 0);
            due.is("12: far in x alone", x.sign(36 - (reach + 1) - 8 * reach, 0, 2), 0);
            x.land(36, -1);
            x.land(0, reach);
            due.is("12: from the corner", x.sign(9 * reach, 0, 2), 1);
            due.is("12: farther from the corner", x.sign(9 * (reach + 1), 0, 2), 0);
        }
    }

    private void signBirdsNotAroundTheEdge() {
        CanoeMaster x = new CanoeMaster();
        x.sea(8, 8);
        x.watches(0, 1);
        x.land(15, 1);
        due.is("12: CELL 16 is next in number alone", x.sign(16, 0, 2), 0);
        due.is("12: CELL 8 is in the same row", x.sign(8, 0, 2), 0);
        due.is("12: CELL 14 is beside it", x.sign(14, 0, 2), 1);
        x.land(15, -1);
        x.land(60, 3);
        due.is("12: not from the last row to the first", x.sign(4, 0, 2), 0);
    }

    private void signBirdsOfNoFlight() {
        CanoeMaster x = new CanoeMaster();
        x.land(0, 3);
        for (int watch = 0; watch < 6; watch++) {
            x.watches(63, 1 << watch);
            for (int other = 0; other < 6; other++) {
                due.is("12: BIRDS in WATCH " + other, x.sign(15, other, 2), other == watch ? 1 : 0);
            }
        }
        x.land(0, -1);
        due.is("12: BIRDS without LAND", x.sign(0, 5, 2), 0);
    }

    // Promise 13: NONE, and nothing is done: another what, none would be left, or the TRUE canoe's would not.

    private void seeAnotherWhat() {
        int[] wrong = {-1, 3, 4, MIN, MAX};
        for (int what : wrong) {
            for (int v = -1; v <= 2; v++) {
                int seen = v;
                scene.changesNothing("13: see(" + what + ", " + v + ")", x -> x.see(what, seen), -1);
            }
        }
    }

    private void seeNoneLeft() {
        int[][] none = {{0, 1}, {0, 4}, {0, -1}, {1, -1}, {1, 2}, {1, 4}, {1, -2}, {2, 0}, {2, 2}, {2, -1},
            {0, MIN}, {0, MAX}, {1, MIN}, {1, MAX}, {2, MIN}, {2, MAX}};
        Scene loose = new Scene(due, x -> {
            x.begin(cells(1, 6, 7, 8, 12, 13));
            x.watches(0b001111, 0b010111);
        });
        for (int[] n : none) {
            scene.changesNothing("13: see(" + n[0] + ", " + n[1] + ")", x -> x.see(n[0], n[1]), -1);
            loose.changesNothing("13: see(" + n[0] + ", " + n[1] + ") without a canoe", x -> x.see(n[0], n[1]), -1);
        }
    }

    private void seeTheCanoeNotLeft() {
        int[][] others = {{0, 0}, {0, 3}, {1, 1}};
        for (int[] o : others) {
            scene.changesNothing("13: see(" + o[0] + ", " + o[1] + ")", x -> x.see(o[0], o[1]), -1);
        }
        Scene byLand = new Scene(due, x -> {
            x.land(7, 0);
            x.put(7);
        });
        byLand.changesNothing("13: see(2, 0) in a canoe with BIRDS", x -> x.see(2, 0), -1);
    }

    private void seeLeavesThoseThatHaveIt() {
        CanoeMaster x = scene.made();
        due.is("13: see(2, 1), which all have", x.see(2, 1), 6);
        due.is("13: see(1, 0)", x.see(1, 0), 4);
        due.is("13: RECKONED", x.reckoned(), cells(1, 6, 7, 8));
        due.is("13: see(0, 2): the TRUE canoe's alone", x.see(0, 2), 1);
        due.is("13: RECKONED", x.reckoned(), 1 << 8);
        due.is("13: HOUR and canoe stay", x.look(2) == 2 && x.look(5) == 8, true);
        x.begin(cells(1, 6, 7, 8, 12, 13));
        due.is("13: without a canoe: see(0, 3)", x.see(0, 3), 1);
        due.is("13: RECKONED", x.reckoned(), 1 << 12);
    }

    private void seeNoStar() {
        CanoeMaster x = new CanoeMaster();
        due.is("13: see(1, -1) by day", x.see(1, -1), 16);
        due.is("13: see(1, 0) by day", x.see(1, 0), -1);
        x.watches(1, 0);
        due.is("13: see(1, -1) by night", x.see(1, -1), -1);
        due.is("13: see(1, 1) by night", x.see(1, 1), 8);
        due.is("13: RECKONED", x.reckoned(), 0xff00L);
    }

    // Promise 14: NONE if there is none.

    private void sightsWithoutCanoe() {
        withoutCanoe.changesNothing("14: sights()", CanoeMaster::sights, -1);
    }

    private void sightsOfAllThree() {
        CanoeMaster x = scene.made();
        due.is("14: sights()", x.sights(), 1);
        due.is("14: RECKONED", x.reckoned(), 1 << 8);
        due.is("14: sights() again", x.sights(), 1);
        due.is("14: HOUR and canoe stay", x.look(2) == 2 && x.look(5) == 8, true);
        for (int what = 0; what <= 2; what++) {
            sightsOf(what);
        }
    }

    /** Two cells that differ in one sign alone are told apart by it. */
    private void sightsOf(int what) {
        CanoeMaster x = new CanoeMaster();
        x.sea(8, 8);
        x.swell(63, what == 0 ? 3 : 0);
        x.watches(what == 1 ? 1 : 0, what == 2 ? 1 : 0);
        x.land(63, 0);
        x.begin(1L << 63 | 1);
        x.put(63);
        due.is("14: sights() of SIGN " + what, x.sights(), 1);
        due.is("14: RECKONED by SIGN " + what, x.reckoned(), Long.MIN_VALUE);
    }
}
