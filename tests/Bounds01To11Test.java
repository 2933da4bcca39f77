import java.util.List;

/** Boundary cases of promises 1 to 11: what is told of hours and plants. Names: promise, call, what. */
public final class Bounds01To11Test {
    private Bounds01To11Test() {
    }

    public static void main(String[] args) throws ReflectiveOperationException {
        Bounds.run(Bounds01To11Test.class, 1, 11);
    }

    private static PlantsCommitted fresh() {
        return new PlantsCommitted();
    }

    private static PlantsCommitted one() {
        return Bounds.made("p0,0;");
    }

    // ---- 1: a new object

    private static void promise01_object_hasNoPlants() {
        Bounds.says(fresh(), "count(0)", 0, "of(0, 0)", -1, "plant(0, 0)", 0);
    }

    private static void promise01_object_countsAreAsAtFirst() {
        Bounds.says(fresh(), "count(1)", 4, "count(2)", 0, "count(3)", 1, "count(4)", 0, "count(5)", 0, "count(11)", 0,
                "count(12)", 0, "count(13)", 0, "count(14)", 0, "count(15)", 0, "count(16)", 0, "purse()", 0);
    }

    private static void promise01_object_fourHoursAllZero() {
        PlantsCommitted x = fresh();
        for (int t = 0; t < 4; t++) {
            Bounds.says(x, "hour(" + t + ", 0)", 0, "hour(" + t + ", 1)", 0, "hour(" + t + ", 2)", 0);
        }
        Bounds.says(x, "hour(4, 0)", -1, "hours(5)", 4, "hour(4, 0)", 0, "hour(4, 1)", 0, "hour(4, 2)", 0);
    }

    private static void promise01_object_listsAndRacksAreMissing() {
        for (int i = 0; i < 4; i++) {
            Bounds.says(fresh(), "judge(" + i + ")", -11, "put(" + i + ", 0, 0)", -11, "lays(" + i + ", 0)", -11);
        }
        for (int i = 0; i < 3; i++) {
            Bounds.says(fresh(), "racked(" + i + ", 0, 1)", -11, "racks(" + i + ", 0, -1)", -11, "like(0, " + i + ")", -11);
        }
    }

    private static void promise01_object_noImageAndNoLetters() {
        Bounds.says(fresh(), "on()", -3, "tells()", -1000);
    }

    private static void promise01_object_isApartFromOthers() {
        List<String> before = Bounds.shownBy(fresh());
        Bounds.rich();
        Bounds.full();
        Bounds.due("a new one behind others", Bounds.shownBy(fresh()), before);
    }

    // ---- 2: letter

    private static void promise02_letter_leastAndMost() {
        Bounds.says(fresh(), "letter(0)", 1, "letter(255)", 2, "letter(1)", 3, "letter(254)", 4, "count(4)", 4);
    }

    private static void promise02_letter_belowTheLeast() {
        Bounds.refused(Bounds::rich, -4, "letter(-1)", "letter(MIN)");
    }

    private static void promise02_letter_aboveTheMost() {
        Bounds.refused(Bounds::rich, -6, "letter(256)", "letter(MAX)");
    }

    private static void promise02_letter_the120thIsTakenTheNextIsNot() {
        PlantsCommitted x = fresh();
        for (int i = 1; i <= 120; i++) {
            Bounds.says(x, "letter(59)", i);
        }
        Bounds.says(x, "letter(59)", -6, "count(4)", 120, "count(16)", 1);
    }

    private static void promise02_letter_fullIsRoom() {
        Bounds.refused(Bounds::full, -6, "letter(0)", "letter(104)", "letter(255)", "letter(256)", "letter(MAX)");
    }

    private static void promise02_letter_belowGoesAheadOfFull() {
        Bounds.refused(Bounds::full, -4, "letter(-1)", "letter(MIN)");
    }

    private static void promise02_letter_roomAgainBehindTells() {
        Bounds.says(Bounds.full(), "count(4)", 120, "tells()", 40, "letter(104)", 1, "count(4)", 1);
        PlantsCommitted fault = fresh();
        Bounds.letters(fault, "h6;");
        Bounds.says(fault, "tells()", -2000, "letter(104)", 1);
    }

    private static void promise02_letter_aRefusedOneIsNotTold() {
        PlantsCommitted x = fresh();
        Bounds.says(x, "letter(104)", 1, "letter(256)", -6, "letter(-1)", -4, "letter(51)", 2, "letter(59)", 3, "tells()", 1);
        Bounds.says(x, "count(1)", 3);
    }

    private static void promise02_letter_theLeastAndTheMostAreToldAsLetters() {
        Bounds.says(fresh(), "letter(104)", 1, "letter(0)", 2, "tells()", -1001);
        Bounds.says(fresh(), "letter(104)", 1, "letter(49)", 2, "letter(59)", 3, "letter(255)", 4, "tells()", -1003);
    }

    // ---- 3: tells

    /** Behind a fault nothing is other than without the letters, and no refusal is counted. */
    private static void fault(String text, int want) {
        PlantsCommitted x = Bounds.plain();
        Bounds.letters(x, text);
        Bounds.says(x, "tells()", want, "count(4)", 0);
        Bounds.sameButFor(x, Bounds.plain(), "'" + text + "'", 0);
    }

    private static void promise03_tells_nothingLacksItsFirstStatement() {
        fault("", -1000);
    }

    private static final String[] EACH = {"p1,2;", "p01,02;", "g0=3,4;", "g00=03,04;", "c0=1,2,3;", "c00=01,02,03;",
        "t0=1,2;", "t00=01,02;", "a0+1;", "a0-1;", "a00+01;", "d0=9,2;", "d00=09,02;", "h4;", "h04;"};

    private static void promise03_tells_whatLacksIsAtTheEnd() {
        for (String s : EACH) {
            for (int n = 1; n < s.length(); n++) {
                fault(s.substring(0, n), -1000 - n);
                fault("h4;" + s.substring(0, n), -1003 - n);
            }
        }
    }

    private static void promise03_tells_theFirstLetterThatCannotGoOn() {
        for (String s : EACH) {
            for (int n = 0; n < s.length(); n++) {
                fault(s.substring(0, n) + "!" + s.substring(n + 1), -1000 - n);
                fault("h4;" + s.substring(0, n) + " " + s.substring(n), -1003 - n);
            }
        }
    }

    private static void promise03_tells_noNumberWithoutADigit() {
        fault("p,2;", -1001);
        fault("p1,;", -1003);
        fault("g=3,4;", -1001);
        fault("g0=,4;", -1003);
        fault("g0=3,;", -1005);
        fault("c=1,2,3;", -1001);
        fault("c0=,2,3;", -1003);
        fault("c0=1,,3;", -1005);
        fault("c0=1,2,;", -1007);
        fault("t=1,2;", -1001);
        fault("t0=1,;", -1005);
        fault("a+1;", -1001);
        fault("a0+;", -1003);
        fault("a0-;", -1003);
        fault("d=9,2;", -1001);
        fault("d0=9,;", -1005);
        fault("h;", -1001);
    }

    private static void promise03_tells_noThirdDigit() {
        fault("p001,2;", -1003);
        fault("p1,002;", -1005);
        fault("g000=3,4;", -1003);
        fault("g0=003,4;", -1005);
        fault("g0=3,004;", -1007);
        fault("c0=1,2,003;", -1009);
        fault("t0=1,002;", -1007);
        fault("a000+1;", -1003);
        fault("a0+001;", -1005);
        fault("d0=100,2;", -1005);
        fault("h004;", -1003);
    }

    private static void promise03_tells_signsAndLettersNextToThoseThatAreTaken() {
        fault("a0,1;", -1002);
        fault("a0.1;", -1002);
        fault("a0*1;", -1002);
        fault("a0+-1;", -1003);
        fault("h/;", -1001);
        fault("h:;", -1001);
        fault("h4:", -1002);
        fault("h4<", -1002);
        fault("P1,2;", -1000);
        fault("b0=1,2;", -1000);
        fault("i4;", -1000);
        fault(";", -1000);
        fault("h4;;", -1003);
        fault("g0+1,2;", -1002);
        fault("g0=1;", -1004);
        fault("c0=1,2;", -1006);
        fault("t0=1,2,3;", -1006);
        fault("p1,2,3;", -1004);
    }

    private static void promise03_tells_theLeastOfEachIsTaken() {
        PlantsCommitted x = Bounds.made("p0,0;g0=0,0;c0=0,0,0;t0=1,1;a0-4;d0=0,0;h1;");
        int[] is = {0, 0, 0, 0, 0, 0, 0, 1, 1, 6};
        for (int what = 0; what < is.length; what++) {
            Bounds.says(x, "of(0, " + what + ")", is[what]);
        }
        Bounds.says(x, "count(1)", 1, "hour(0, 0)", 0, "hour(0, 1)", 0);
    }

    private static void promise03_tells_theMostOfEachIsTaken() {
        PlantsCommitted x = Bounds.made("p5,9;g0=30,60;c0=9,30,50;t0=3,3;a0+4;h5;d4=99,20;");
        int[] is = {5, 9, 30, 60, 9, 30, 50, 3, 3, 14};
        for (int what = 0; what < is.length; what++) {
            Bounds.says(x, "of(0, " + what + ")", is[what]);
        }
        Bounds.says(x, "count(1)", 5, "hour(4, 0)", 99, "hour(4, 1)", 20);
    }

    private static void promise03_tells_aPlantBeginsAsThePromiseSays() {
        PlantsCommitted x = Bounds.made("p3,7;");
        int[] is = {3, 7, 0, 10, 1, 0, 0, 1, 1, 9};
        for (int what = 0; what < is.length; what++) {
            Bounds.says(x, "of(0, " + what + ")", is[what]);
        }
    }

    private static void promise03_tells_beyondTheBoundsOfEach() {
        String[] wrong = {"p6,0;", "p99,0;", "p0,10;", "p0,99;", "g2=0,1;", "g99=0,1;", "g0=31,60;", "g0=30,61;", "g0=5,4;",
            "g0=1,0;", "c2=0,0,0;", "c0=10,0,0;", "c0=0,31,0;", "c0=0,0,51;", "t2=1,1;", "t0=0,1;", "t0=1,0;", "t0=4,1;",
            "t0=1,4;", "a2+1;", "a0+0;", "a0-0;", "a0+5;", "a0-5;", "a0-99;", "d4=0,0;", "d99=0,0;", "d0=0,21;", "d0=99,99;",
            "h0;", "h00;", "h6;", "h99;"};
        for (String s : wrong) {
            fault(s, -2000);
            fault("h5;d0=1,1;h4;" + s + "h1;", -2013);
        }
    }

    private static void promise03_tells_theFourthPlantIsTheFault() {
        PlantsCommitted x = fresh();
        Bounds.letters(x, "p0,0;p0,0;p0,0;p0,0;");
        Bounds.says(x, "tells()", -2015, "count(0)", 0, "count(16)", 0);
        Bounds.letters(x, "p0,0;p0,0;p0,0;");
        Bounds.says(x, "tells()", 3, "count(0)", 3);
        fault("p0,0;p0,0;", -2005);
    }

    private static void promise03_tells_kindOneGoesAheadOfKindTwo() {
        fault("h0;h", -1004);
        fault("h0;x", -1003);
        fault("h0", -1002);
        fault("p9,9;a7+7;h9;!", -1013);
    }

    private static void promise03_tells_theFirstOfSeveralFaults() {
        fault("h5;h0;h6;", -2003);
        fault("h!;h!;", -1001);
    }

    private static void promise03_tells_eachStatementIsHeldAgainstThoseAheadOfIt() {
        fault("h3;d3=0,0;", -2003);
        PlantsCommitted x = fresh();
        Bounds.letters(x, "g0=1,2;p0,0;");
        Bounds.says(x, "tells()", -2000, "count(0)", 0);
        Bounds.letters(x, "p0,0;g0=1,2;h5;d4=1,1;h4;");
        Bounds.says(x, "tells()", 5, "of(0, 2)", 1, "of(0, 3)", 2, "count(1)", 4, "hours(5)", 4, "hour(4, 0)", 1);
    }

    private static void promise03_tells_withOneFaultNothingComes() {
        fault("p5,9;g0=0,1;c0=9,9,9;t0=3,3;a0+4;d0=99,20;h5;d4=1,1;h1;h0;", -2055);
        fault("p5,9;g0=0,1;c0=9,9,9;t0=3,3;a0+4;d0=99,20;h5;d4=1,1;h1;h", -1056);
    }

    private static void promise03_tells_noRefusalIsCounted() {
        for (String s : new String[] {"g2=0,1;", "p6,0;", "g0=5,4;", "h0;", "h6;"}) {
            PlantsCommitted x = one();
            Bounds.letters(x, s.replace("g2", "g1"));
            Bounds.says(x, "tells()", -2000, "count(11)", 0, "count(12)", 0, "count(13)", 0, "count(14)", 0, "count(15)", 0,
                    "count(16)", 0);
        }
    }

    private static void promise03_tells_lettersAreNoMore() {
        PlantsCommitted x = fresh();
        Bounds.letters(x, "h5;");
        Bounds.says(x, "tells()", 1, "count(4)", 0, "tells()", -1000, "count(1)", 5);
        Bounds.letters(x, "h3;h0;");
        Bounds.says(x, "tells()", -2003, "count(4)", 0, "tells()", -1000);
        Bounds.letters(x, "h3;h");
        Bounds.says(x, "tells()", -1004, "count(4)", 0, "tells()", -1000, "count(1)", 5);
    }

    private static void promise03_tells_aTextOf120Letters() {
        Bounds.says(Bounds.full(), "tells()", 40, "count(1)", 2, "count(4)", 0);
        String most = "h1;".repeat(39);
        fault(most + "p0,", -1120);
        fault(most + "h1", -1119);
        fault(most + "h1!", -1119);
        fault(most + "h6;", -2117);
        PlantsCommitted x = fresh();
        Bounds.letters(x, most + "h5;h2;");
        Bounds.says(x, "count(16)", 3, "tells()", 40, "count(1)", 5);
    }

    // ---- 4: hours

    private static void promise04_hours_leastAndMost() {
        Bounds.says(fresh(), "hours(1)", 4, "count(1)", 1, "hours(5)", 1, "count(1)", 5, "hours(5)", 5, "hours(1)", 5);
    }

    private static void promise04_hours_belowTheLeast() {
        Bounds.refused(Bounds::rich, -4, "hours(0)", "hours(-1)", "hours(MIN)");
    }

    private static void promise04_hours_aboveTheMost() {
        Bounds.refused(Bounds::rich, -6, "hours(6)", "hours(MAX)");
    }

    private static void promise04_hours_whatHoursHadIsKept() {
        PlantsCommitted x = Bounds.calls(fresh(), "hours(5)", "demand(4, 99, 20)", "price(4, 98)", "demand(1, 5, 6)", "price(1, 7)");
        Bounds.says(x, "hours(1)", 5, "hour(1, 0)", -1, "hour(4, 0)", -1, "count(5)", 0, "hours(2)", 1, "hour(1, 0)", 5,
                "hour(1, 1)", 6, "hour(1, 2)", 7, "hour(2, 0)", -1, "hours(5)", 2, "hour(4, 0)", 99, "hour(4, 1)", 20,
                "hour(4, 2)", 98, "count(5)", 104);
    }

    private static void promise04_hours_thoseFromHOnAreNotThere() {
        for (int h = 1; h <= 5; h++) {
            int n = h;
            for (String call : new String[] {"demand(H, 0, 0)", "done(H, 0)", "given(H, 0, 0)", "cost(H)", "margin(H)",
                "price(H, 0)", "rounds(0, H)", "hour(H, 0)"}) {
                Bounds.refused(() -> Bounds.calls(Bounds.plain(), "hours(" + n + ")"), -1, call.replace("H", "" + n));
            }
            PlantsCommitted x = Bounds.calls(Bounds.plain(), "hours(" + n + ")");
            Bounds.says(x, "hour(" + (h - 1) + ", 3)", -2, "count(11)", 1, "count(12)", 2);
        }
    }

    // ---- 5: demand

    private static void promise05_demand_leastAndMost() {
        Bounds.says(fresh(), "demand(0, 99, 20)", 0, "demand(0, 0, 0)", 9920, "demand(3, 0, 20)", 0, "demand(3, 99, 0)", 20,
                "demand(3, 1, 1)", 9900, "demand(3, 0, 0)", 101);
    }

    private static void promise05_demand_nobody() {
        Bounds.refused(Bounds::rich, -1, "demand(4, 0, 0)", "demand(-1, 0, 0)", "demand(MAX, 0, 0)", "demand(MIN, 0, 0)");
    }

    private static void promise05_demand_belowTheLeast() {
        Bounds.refused(Bounds::rich, -4, "demand(0, -1, 0)", "demand(0, 0, -1)", "demand(0, MIN, 0)", "demand(0, 0, MIN)");
    }

    private static void promise05_demand_aboveTheMost() {
        Bounds.refused(Bounds::rich, -6, "demand(0, 100, 0)", "demand(0, 0, 21)", "demand(0, MAX, 0)", "demand(0, 0, MAX)");
    }

    private static void promise05_demand_whichRefusalGoesFirst() {
        Bounds.refused(Bounds::rich, -1, "demand(4, -1, 0)", "demand(4, 0, -1)", "demand(-1, 100, 0)", "demand(4, 0, 21)");
        Bounds.refused(Bounds::rich, -4, "demand(0, -1, 21)", "demand(0, 100, -1)");
    }

    // ---- 6: plant

    private static void promise06_plant_leastAndMost() {
        for (int kind = 0; kind <= 5; kind++) {
            Bounds.says(fresh(), "plant(" + kind + ", 0)", 0, "plant(" + kind + ", 9)", 1, "of(0, 0)", kind, "of(1, 0)", kind,
                    "of(0, 1)", 0, "of(1, 1)", 9);
        }
    }

    private static void promise06_plant_beginsAsByLetters() {
        int[] is = {2, 8, 0, 10, 1, 0, 0, 1, 1, 9};
        PlantsCommitted x = Bounds.calls(fresh(), "plant(2, 8)");
        for (int what = 0; what < is.length; what++) {
            Bounds.says(x, "of(0, " + what + ")", is[what]);
        }
    }

    private static void promise06_plant_other() {
        Bounds.refused(Bounds::rich, -2, "plant(-1, 0)", "plant(6, 0)", "plant(MIN, 0)", "plant(MAX, 0)");
    }

    private static void promise06_plant_belowTheLeast() {
        Bounds.refused(Bounds::rich, -4, "plant(0, -1)", "plant(5, MIN)");
    }

    private static void promise06_plant_aboveTheMost() {
        Bounds.refused(Bounds::rich, -6, "plant(0, 10)", "plant(5, MAX)");
    }

    private static void promise06_plant_theThirdIsTakenTheFourthIsNot() {
        Bounds.says(fresh(), "plant(0, 0)", 0, "plant(0, 0)", 1, "plant(0, 0)", 2, "plant(0, 0)", -6, "count(0)", 3);
        Bounds.refused(Bounds::full, -6, "plant(0, 0)", "plant(5, 9)", "plant(0, 10)");
    }

    private static void promise06_plant_whichRefusalGoesFirst() {
        Bounds.refused(Bounds::rich, -2, "plant(6, -1)", "plant(-1, 10)");
        Bounds.refused(Bounds::full, -2, "plant(6, 0)", "plant(-1, 0)");
        Bounds.refused(Bounds::full, -4, "plant(0, -1)");
    }

    private static void promise06_plant_onGivesRoomAgain() {
        Bounds.says(fresh(), "plant(0, 0)", 0, "image()", 1, "plant(1, 1)", 1, "plant(2, 2)", 2, "plant(3, 3)", -6, "on()", 1,
                "plant(4, 4)", 1, "of(1, 0)", 4, "of(1, 3)", 10, "of(2, 0)", -1);
    }

    private static void promise06_plant_nothingIsLeftOfOneThatWasThere() {
        PlantsCommitted x = Bounds.calls(fresh(), "image()", "plant(5, 9)", "gives(0, 30, 60)", "costs(0, 9, 30, 50)",
                "times(0, 3, 3)", "age(0, 4)", "on()", "plant(0, 0)");
        int[] is = {0, 0, 0, 10, 1, 0, 0, 1, 1, 9};
        for (int what = 0; what < is.length; what++) {
            Bounds.says(x, "of(0, " + what + ")", is[what]);
        }
    }

    // ---- 7: gives

    private static void promise07_gives_leastAndMost() {
        Bounds.says(one(), "gives(0, 30, 60)", 10, "gives(0, 0, 60)", 3060, "gives(0, 0, 0)", 60, "gives(0, 30, 30)", 0,
                "gives(0, 29, 30)", 3030, "gives(0, 0, 1)", 2930);
    }

    private static void promise07_gives_nobody() {
        Bounds.refused(Bounds::rich, -1, "gives(2, 0, 1)", "gives(-1, 0, 1)", "gives(MIN, 0, 1)", "gives(MAX, 0, 1)");
        Bounds.refused(Bounds01To11Test::fresh, -1, "gives(0, 0, 1)");
    }

    private static void promise07_gives_belowTheLeast() {
        Bounds.refused(Bounds::rich, -4, "gives(0, -1, 5)", "gives(0, MIN, 5)", "gives(0, 0, -1)", "gives(0, 0, MIN)");
    }

    private static void promise07_gives_aboveTheMost() {
        Bounds.refused(Bounds::rich, -6, "gives(0, 31, 60)", "gives(0, 30, 61)", "gives(0, MAX, 60)", "gives(0, 0, MAX)");
    }

    private static void promise07_gives_lowAboveHigh() {
        Bounds.refused(Bounds::rich, -3, "gives(0, 1, 0)", "gives(0, 30, 29)", "gives(0, 6, 5)", "gives(1, 30, 0)");
    }

    private static void promise07_gives_whichRefusalGoesFirst() {
        Bounds.refused(Bounds::rich, -1, "gives(2, -1, 5)", "gives(2, 31, 60)", "gives(-1, 5, 4)");
        Bounds.refused(Bounds::rich, -4, "gives(0, -1, 61)", "gives(0, 31, -1)", "gives(0, 5, -1)");
        Bounds.refused(Bounds::rich, -6, "gives(0, 31, 30)", "gives(0, 31, 0)", "gives(0, MAX, 59)");
    }

    // ---- 8: costs

    private static void promise08_costs_leastAndMost() {
        Bounds.says(one(), "costs(0, 9, 30, 50)", 10000, "costs(0, 0, 0, 0)", 93050, "costs(0, 9, 0, 0)", 0,
                "costs(0, 0, 30, 0)", 90000, "costs(0, 0, 0, 50)", 3000, "costs(0, 1, 1, 1)", 50, "costs(0, 0, 0, 0)", 10101);
    }

    private static void promise08_costs_nobody() {
        Bounds.refused(Bounds::rich, -1, "costs(2, 0, 0, 0)", "costs(-1, 0, 0, 0)", "costs(MIN, 0, 0, 0)", "costs(MAX, 0, 0, 0)");
        Bounds.refused(Bounds01To11Test::fresh, -1, "costs(0, 0, 0, 0)");
    }

    private static void promise08_costs_belowTheLeast() {
        Bounds.refused(Bounds::rich, -4, "costs(0, -1, 0, 0)", "costs(0, 0, -1, 0)", "costs(0, 0, 0, -1)", "costs(0, MIN, 0, 0)",
                "costs(0, 0, MIN, 0)", "costs(0, 0, 0, MIN)");
    }

    private static void promise08_costs_aboveTheMost() {
        Bounds.refused(Bounds::rich, -6, "costs(0, 10, 0, 0)", "costs(0, 0, 31, 0)", "costs(0, 0, 0, 51)", "costs(0, MAX, 0, 0)",
                "costs(0, 0, MAX, 0)", "costs(0, 0, 0, MAX)");
    }

    private static void promise08_costs_whichRefusalGoesFirst() {
        Bounds.refused(Bounds::rich, -1, "costs(2, -1, 0, 0)", "costs(2, 0, 31, 0)", "costs(-1, 0, 0, -1)");
        Bounds.refused(Bounds::rich, -4, "costs(0, 10, 0, -1)", "costs(0, -1, 31, 0)", "costs(0, 0, -1, 51)");
    }

    // ---- 9: times

    private static void promise09_times_leastAndMost() {
        Bounds.says(one(), "times(0, 3, 3)", 11, "times(0, 1, 3)", 33, "times(0, 3, 1)", 13, "times(0, 1, 1)", 31);
    }

    private static void promise09_times_nobody() {
        Bounds.refused(Bounds::rich, -1, "times(2, 1, 1)", "times(-1, 1, 1)", "times(MIN, 1, 1)", "times(MAX, 1, 1)");
        Bounds.refused(Bounds01To11Test::fresh, -1, "times(0, 1, 1)");
    }

    private static void promise09_times_belowTheLeast() {
        Bounds.refused(Bounds::rich, -4, "times(0, 0, 1)", "times(0, 1, 0)", "times(0, -1, 1)", "times(0, MIN, 1)", "times(0, 1, MIN)");
    }

    private static void promise09_times_aboveTheMost() {
        Bounds.refused(Bounds::rich, -6, "times(0, 4, 1)", "times(0, 1, 4)", "times(0, MAX, 1)", "times(0, 1, MAX)");
    }

    private static void promise09_times_whichRefusalGoesFirst() {
        Bounds.refused(Bounds::rich, -1, "times(2, 0, 1)", "times(2, 1, 4)", "times(-1, 4, 0)");
        Bounds.refused(Bounds::rich, -4, "times(0, 0, 4)", "times(0, 4, 0)");
    }

    // ---- 10: age

    private static void promise10_age_leastAndMost() {
        Bounds.says(one(), "age(0, 4)", 9, "age(0, -4)", 14, "age(0, 1)", 6, "age(0, -1)", 11, "age(0, -1)", 9);
    }

    private static void promise10_age_nobody() {
        Bounds.refused(Bounds::rich, -1, "age(2, 1)", "age(-1, 1)", "age(MIN, 1)", "age(MAX, 1)");
        Bounds.refused(Bounds01To11Test::fresh, -1, "age(0, 1)");
    }

    private static void promise10_age_belowTheLeast() {
        Bounds.refused(Bounds::rich, -4, "age(0, -5)", "age(0, MIN)");
    }

    private static void promise10_age_aboveTheMost() {
        Bounds.refused(Bounds::rich, -6, "age(0, 5)", "age(0, MAX)");
    }

    private static void promise10_age_nothingIsNoAge() {
        Bounds.refused(Bounds::rich, -3, "age(0, 0)", "age(1, 0)");
    }

    private static void promise10_age_whichRefusalGoesFirst() {
        Bounds.refused(Bounds::rich, -1, "age(2, 0)", "age(2, -5)", "age(-1, 5)");
    }

    // ---- 11: merit

    private static void promise11_merit_leastAndMost() {
        Bounds.says(fresh(), "merit(2)", 0, "merit(1)", 2, "merit(0)", 1, "merit(0)", 0, "count(2)", 0);
    }

    private static void promise11_merit_other() {
        Bounds.refused(Bounds::rich, -2, "merit(-1)", "merit(3)", "merit(MIN)", "merit(MAX)");
    }

    /** 12 asked of three that give 10 at most each: the first by merit 10, the second 2, the third nothing. */
    private static void shares(PlantsCommitted x, int a, int b, int c) {
        Bounds.says(x, "given(0, 7, 0)", a, "given(0, 7, 1)", b, "given(0, 7, 2)", c);
    }

    private static void promise11_merit_ofAlikeOnesTheLeastNumber() {
        PlantsCommitted x = Bounds.made("p0,0;p0,0;p0,0;d0=12,0;");
        for (int merit = 0; merit <= 2; merit++) {
            x.merit(merit);
            shares(x, 10, 2, 0);
        }
    }

    private static void promise11_merit_oneApartIsEnough() {
        PlantsCommitted byPrice = Bounds.made("p0,0;c0=2,0,0;p0,0;c1=2,0,0;p0,0;c2=1,0,0;d0=12,0;");
        shares(byPrice, 2, 0, 10);
        byPrice.merit(1);
        shares(byPrice, 10, 2, 0);
        PlantsCommitted bySize = Bounds.made("p0,0;p0,0;p0,0;g2=0,11;d0=12,0;");
        shares(bySize, 10, 2, 0);
        bySize.merit(1);
        shares(bySize, 1, 0, 11);
        bySize.merit(2);
        shares(bySize, 10, 2, 0);
    }

    private static void promise11_merit_sizeIsHighNotLow() {
        shares(Bounds.made("p0,0;g0=1,10;p0,0;g1=0,11;p5,0;g2=0,0;d0=12,0;", "merit(1)"), 1, 11, 0);
    }
}
