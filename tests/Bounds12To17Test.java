/** Boundary cases of promises 12 to 17: what plants are, may and can. Names: promise, call, what. */
public final class Bounds12To17Test {
    private Bounds12To17Test() {
    }

    public static void main(String[] args) throws ReflectiveOperationException {
        Bounds.run(Bounds12To17Test.class, 12, 17);
    }

    private static PlantsCommitted fresh() {
        return new PlantsCommitted();
    }

    // ---- 12: of

    private static void promise12_of_leastAndMostOfEach() {
        PlantsCommitted x = Bounds.made("p0,0;g0=0,0;c0=0,0,0;t0=1,1;a0-4;p5,9;g1=30,60;c1=9,30,50;t1=3,3;a1+4;");
        int[] least = {0, 0, 0, 0, 0, 0, 0, 1, 1, 6, 0, 0};
        int[] most = {5, 9, 30, 60, 9, 30, 50, 3, 3, 14, 60, 60};
        for (int what = 0; what <= 11; what++) {
            Bounds.says(x, "of(0, " + what + ")", least[what], "of(1, " + what + ")", most[what]);
        }
    }

    private static void promise12_of_eachNumberApart() {
        PlantsCommitted x = Bounds.calls(fresh(), "plant(4, 5)", "gives(0, 6, 27)", "costs(0, 8, 19, 40)", "times(0, 3, 1)", "age(0, 2)");
        int[] is = {4, 5, 6, 27, 8, 19, 40, 3, 1, 12, 6, 27};
        for (int what = 0; what <= 11; what++) {
            Bounds.says(x, "of(0, " + what + ")", is[what]);
        }
    }

    private static void promise12_of_nobody() {
        Bounds.refused(Bounds::rich, -1, "of(2, 0)", "of(-1, 0)", "of(MIN, 11)", "of(MAX, 11)");
        Bounds.refused(Bounds12To17Test::fresh, -1, "of(0, 0)");
    }

    private static void promise12_of_other() {
        Bounds.refused(Bounds::rich, -2, "of(0, -1)", "of(0, 12)", "of(1, MIN)", "of(1, MAX)");
    }

    private static void promise12_of_whichRefusalGoesFirst() {
        Bounds.refused(Bounds::rich, -1, "of(2, -1)", "of(-1, 12)");
    }

    private static void promise12_of_nothingIsChanged() {
        Bounds.asks(Bounds::rich, 8, "of(0, 9)");
        Bounds.asks(Bounds::rich, 2, "of(0, 10)");
        Bounds.asks(Bounds::rich, 10, "of(0, 11)");
    }

    /** MOST as it goes on, LEAST and MOST when it was on, of HIGH 20. */
    private static void kind(int kind, int least, int mostAsItGoesOn) {
        PlantsCommitted x = Bounds.made("p" + kind + ",3;g0=4,20;");
        Bounds.says(x, "of(0, 10)", least, "of(0, 11)", mostAsItGoesOn);
    }

    private static void promise12_of_leastAndMostByKind() {
        kind(0, 4, 20);
        kind(1, 4, 20);
        kind(2, 4, 7);
        kind(3, 4, 7);
        kind(4, 4, 20);
        kind(5, 20, 20);
    }

    private static void promise12_of_lowAndFigureButHighAtMost() {
        for (int k = 2; k <= 3; k++) {
            PlantsCommitted x = Bounds.made("p" + k + ",3;");
            Bounds.says(x, "gives(0, 4, 6)", 10, "of(0, 11)", 6, "gives(0, 4, 7)", 406, "of(0, 11)", 7, "gives(0, 4, 8)", 407,
                    "of(0, 11)", 7, "gives(0, 4, 4)", 408, "of(0, 11)", 4);
            PlantsCommitted y = Bounds.made("p" + k + ",0;");
            Bounds.says(y, "gives(0, 0, 60)", 10, "of(0, 11)", 0, "gives(0, 30, 60)", 60, "of(0, 11)", 30);
            PlantsCommitted z = Bounds.made("p" + k + ",9;g0=30,60;");
            Bounds.says(z, "of(0, 11)", 39);
        }
    }

    // ---- 13: starts

    private static void promise13_starts_leastAndMostHours() {
        PlantsCommitted x = Bounds.made("p1,9;c0=0,0,50;");
        Bounds.says(x, "starts(0, 1)", 59, "starts(0, 9)", 86);
    }

    private static void promise13_starts_nobody() {
        Bounds.refused(Bounds::rich, -1, "starts(2, 1)", "starts(-1, 1)", "starts(MIN, 1)", "starts(MAX, 1)");
        Bounds.refused(Bounds12To17Test::fresh, -1, "starts(0, 1)");
    }

    private static void promise13_starts_belowTheLeast() {
        Bounds.refused(Bounds::rich, -4, "starts(0, 0)", "starts(0, -1)", "starts(0, MIN)");
    }

    private static void promise13_starts_aboveTheMost() {
        Bounds.refused(Bounds::rich, -6, "starts(0, 10)", "starts(0, MAX)");
    }

    private static void promise13_starts_whichRefusalGoesFirst() {
        Bounds.refused(Bounds::rich, -1, "starts(2, 0)", "starts(-1, 10)");
    }

    private static void byHours(PlantsCommitted x, int... due) {
        for (int r = 1; r <= due.length; r++) {
            Bounds.says(x, "starts(0, " + r + ")", due[r - 1]);
        }
    }

    private static void promise13_starts_fourHoursAtMostCount() {
        byHours(Bounds.made("p1,3;c0=0,0,7;"), 10, 13, 16, 19, 19, 19, 19, 19, 19);
        byHours(Bounds.made("p4,3;c0=0,0,7;"), 5, 13, 16, 19, 19, 19, 19, 19, 19);
    }

    private static void promise13_starts_ofKindsThatAreNotCold() {
        byHours(Bounds.made("p0,3;c0=0,0,7;"), 7, 7, 7, 7, 7, 7, 7, 7, 7);
        byHours(Bounds.made("p2,3;c0=0,0,7;"), 7, 7, 7, 7, 7, 7, 7, 7, 7);
        byHours(Bounds.made("p3,3;c0=0,0,7;"), 14, 14, 14, 14, 14, 14, 14, 14, 14);
        byHours(Bounds.made("p5,3;c0=0,0,7;"), 14, 14, 14, 14, 14, 14, 14, 14, 14);
    }

    private static void promise13_starts_leastAndMostOfStartAndFigure() {
        byHours(Bounds.made("p1,0;c0=0,0,0;"), 0, 0, 0, 0);
        byHours(Bounds.made("p1,9;c0=0,0,0;"), 9, 18, 27, 36);
        byHours(Bounds.made("p1,0;c0=0,0,50;"), 50, 50, 50, 50);
        byHours(Bounds.made("p3,9;c0=0,0,50;"), 100, 100, 100, 100);
        byHours(Bounds.made("p5,9;c0=0,0,0;"), 0, 0, 0, 0);
    }

    private static void promise13_starts_ofSpareOnesHalfIsCut() {
        byHours(Bounds.made("p4,9;c0=0,0,50;"), 29, 68, 77, 86);
        byHours(Bounds.made("p4,1;c0=0,0,0;"), 0, 2, 3, 4);
        byHours(Bounds.made("p4,0;c0=0,0,1;"), 0, 1, 1, 1);
        byHours(Bounds.made("p4,1;c0=0,0,1;"), 1, 3, 4, 5);
    }

    // ---- 14: lawful

    private static void promise14_lawful_leastAndMostRow() {
        for (int h = 1; h <= 5; h++) {
            PlantsCommitted x = Bounds.made("p0,0;h" + h + ";");
            Bounds.says(x, "lawful(0, 0)", 1, "lawful(0, " + ((1 << h) - 1) + ")", 1, "lawful(0, " + (1 << h) + ")", -6,
                    "lawful(0, -1)", -4, "count(14)", 1, "count(16)", 1);
        }
    }

    private static void promise14_lawful_nobody() {
        Bounds.refused(Bounds::rich, -1, "lawful(2, 0)", "lawful(-1, 0)", "lawful(MIN, 0)", "lawful(MAX, 0)");
        Bounds.refused(Bounds12To17Test::fresh, -1, "lawful(0, 0)");
    }

    private static void promise14_lawful_belowTheLeast() {
        Bounds.refused(Bounds::rich, -4, "lawful(0, -1)", "lawful(0, MIN)");
    }

    private static void promise14_lawful_bitsOfNoHour() {
        Bounds.refused(Bounds::rich, -6, "lawful(0, 16)", "lawful(0, 17)", "lawful(0, 32)", "lawful(0, 1073741824)", "lawful(0, MAX)");
    }

    private static void promise14_lawful_whichRefusalGoesFirst() {
        Bounds.refused(Bounds::rich, -1, "lawful(2, -1)", "lawful(-1, 16)");
    }

    private static void promise14_lawful_nothingIsChanged() {
        Bounds.asks(Bounds::rich, 0, "lawful(0, 1)");
        Bounds.asks(Bounds::rich, 1, "lawful(0, 3)");
    }

    /** Which of the rows 0, 1, 3, 7 of three hours are lawful for a plant that is on (or, on from its end, off). */
    private static void goesOff(int kind, int up, int age, int first) {
        PlantsCommitted x = Bounds.made("h3;p" + kind + ",0;", "times(0, " + up + ", 1)", "age(0, " + age + ")");
        for (int hours = 0; hours <= 3; hours++) {
            Bounds.says(x, "lawful(0, " + ((1 << hours) - 1) + ")", hours >= first ? 1 : 0);
        }
    }

    private static void promise14_lawful_offOnlyBehindUpHoursOn() {
        for (int up = 1; up <= 3; up++) {
            for (int age = 1; age <= 4; age++) {
                goesOff(0, up, age, up - age);
                goesOff(4, up, age, up - age);
            }
        }
    }

    private static void promise14_lawful_onOnlyBehindDownHoursOff() {
        for (int down = 1; down <= 3; down++) {
            for (int age = 1; age <= 4; age++) {
                PlantsCommitted x = Bounds.made("h3;p3,0;", "times(0, 1, " + down + ")", "age(0, -" + age + ")");
                for (int hours = 0; hours <= 3; hours++) {
                    Bounds.says(x, "lawful(0, " + (7 << hours & 7) + ")", hours == 3 || hours >= down - age ? 1 : 0);
                }
            }
        }
    }

    private static void promise14_lawful_betweenTheHours() {
        PlantsCommitted x = Bounds.made("h5;p0,0;t0=2,1;a0-1;");
        Bounds.says(x, "lawful(0, 2)", 0, "lawful(0, 6)", 1, "lawful(0, 14)", 1, "lawful(0, 22)", 1, "lawful(0, 13)", 0);
        PlantsCommitted y = Bounds.made("h5;p0,0;t0=1,2;a0+1;");
        Bounds.says(y, "lawful(0, 5)", 0, "lawful(0, 9)", 1, "lawful(0, 2)", 0, "lawful(0, 4)", 1, "lawful(0, 11)", 0);
        PlantsCommitted z = Bounds.made("h5;p0,0;t0=3,3;a0+4;");
        Bounds.says(z, "lawful(0, 24)", 1, "lawful(0, 28)", 0, "lawful(0, 8)", 0, "lawful(0, 17)", 1, "lawful(0, 9)", 0);
    }

    private static void promise14_lawful_theLastRunMayBeShort() {
        PlantsCommitted x = Bounds.made("h5;p0,0;t0=3,3;a0-4;");
        Bounds.says(x, "lawful(0, 16)", 1, "lawful(0, 24)", 1, "lawful(0, 8)", 0, "lawful(0, 15)", 1);
    }

    private static void promise14_lawful_baseAndFullNeverGoOff() {
        for (int kind = 0; kind <= 5; kind++) {
            PlantsCommitted x = Bounds.made("h3;p" + kind + ",0;a0+4;");
            int may = kind == 3 || kind == 5 ? 0 : 1;
            Bounds.says(x, "lawful(0, 7)", 1, "lawful(0, 3)", may, "lawful(0, 0)", may, "lawful(0, 6)", may);
            PlantsCommitted y = Bounds.made("h3;p" + kind + ",0;a0-1;");
            Bounds.says(y, "lawful(0, 0)", 1, "lawful(0, 4)", 1, "lawful(0, 2)", may, "lawful(0, 7)", 1);
        }
    }

    // ---- 15: rows

    private static void promise15_rows_howManyAndTheLast() {
        for (int h = 1; h <= 5; h++) {
            PlantsCommitted x = Bounds.made("p0,0;h" + h + ";");
            int many = 1 << h;
            Bounds.says(x, "rows(0, -1)", many, "rows(0, 0)", 0, "rows(0, 1)", 1, "rows(0, " + (many - 1) + ")", many - 1,
                    "rows(0, " + many + ")", -3, "count(13)", 1);
        }
    }

    private static void promise15_rows_onlyOne() {
        for (int h = 1; h <= 5; h++) {
            PlantsCommitted x = Bounds.made("p3,0;a0+1;h" + h + ";");
            Bounds.says(x, "rows(0, -1)", 1, "rows(0, 0)", (1 << h) - 1, "rows(0, 1)", -3);
        }
    }

    private static void promise15_rows_theLeastFirst() {
        PlantsCommitted x = Bounds.made("h3;p0,0;t0=2,1;a0-1;");
        int[] rows = {0, 3, 4, 6, 7};
        Bounds.says(x, "rows(0, -1)", rows.length);
        for (int i = 0; i < rows.length; i++) {
            Bounds.says(x, "rows(0, " + i + ")", rows[i]);
        }
        Bounds.says(x, "rows(0, " + rows.length + ")", -3);
    }

    private static void promise15_rows_nobody() {
        Bounds.refused(Bounds::rich, -1, "rows(2, 0)", "rows(-1, 0)", "rows(MIN, -1)", "rows(MAX, -1)");
        Bounds.refused(Bounds12To17Test::fresh, -1, "rows(0, -1)");
    }

    private static void promise15_rows_notSoManyOrBelow() {
        Bounds.refused(Bounds::rich, -3, "rows(1, 16)", "rows(1, MAX)", "rows(1, -2)", "rows(1, MIN)");
    }

    private static void promise15_rows_whichRefusalGoesFirst() {
        Bounds.refused(Bounds::rich, -1, "rows(2, -2)", "rows(-1, 99)");
    }

    private static void promise15_rows_nothingIsChanged() {
        Bounds.asks(Bounds::rich, 16, "rows(1, -1)");
        Bounds.asks(Bounds::rich, 15, "rows(1, 15)");
    }

    // ---- 16: done

    private static void promise16_done_leastAndMostSet() {
        PlantsCommitted x = Bounds.made("p0,0;p0,0;p0,0;d3=30,0;");
        Bounds.says(x, "done(0, 0)", 0, "done(0, 7)", 0, "done(3, 7)", 30, "done(3, 6)", -9);
        Bounds.asks(Bounds::rich, 12, "done(1, 3)");
        Bounds.asks(Bounds::rich, 9, "done(1, 2)");
    }

    private static void promise16_done_noPlants() {
        Bounds.asks(Bounds12To17Test::fresh, 0, "done(0, 0)", "done(3, 0)");
        Bounds.refused(Bounds12To17Test::fresh, -6, "done(0, 1)");
        Bounds.asks(() -> Bounds.made("d0=1,0;d1=0,1;"), -9, "done(0, 0)", "done(1, 0)");
    }

    private static void promise16_done_nobody() {
        Bounds.refused(Bounds::rich, -1, "done(4, 0)", "done(-1, 0)", "done(MIN, 0)", "done(MAX, 0)");
    }

    private static void promise16_done_belowTheLeast() {
        Bounds.refused(Bounds::rich, -4, "done(0, -1)", "done(0, MIN)");
    }

    private static void promise16_done_bitsOfNoPlant() {
        Bounds.refused(Bounds::rich, -6, "done(0, 4)", "done(0, 5)", "done(0, 1073741824)", "done(0, MAX)");
        Bounds.refused(Bounds::full, -6, "done(0, 8)");
    }

    private static void promise16_done_whichRefusalGoesFirst() {
        Bounds.refused(Bounds::rich, -1, "done(4, -1)", "done(-1, 4)");
    }

    private static void promise16_done_leastIsDemandAtMost() {
        PlantsCommitted x = Bounds.made("p0,0;g0=5,20;p5,0;g1=3,7;c1=9,0,0;");
        Bounds.says(x, "demand(0, 5, 0)", 0, "done(0, 1)", 5, "demand(0, 4, 0)", 500, "done(0, 1)", -9);
        Bounds.says(x, "demand(0, 12, 0)", 400, "done(0, 3)", 5 + 63, "demand(0, 11, 0)", 1200, "done(0, 3)", -9);
    }

    private static void promise16_done_mostIsDemandAndReserveAtLeast() {
        PlantsCommitted x = Bounds.made("p0,0;p0,0;");
        Bounds.says(x, "demand(0, 10, 0)", 0, "done(0, 1)", 10, "demand(0, 11, 0)", 1000, "done(0, 1)", -9,
                "demand(0, 0, 10)", 1100, "done(0, 2)", 0, "demand(0, 0, 11)", 10, "done(0, 2)", -9,
                "demand(0, 7, 13)", 11, "done(0, 3)", 7, "demand(0, 8, 13)", 713, "done(0, 3)", -9);
    }

    private static void promise16_done_theyWereOnAheadOfIt() {
        for (int kind = 0; kind <= 5; kind++) {
            PlantsCommitted x = Bounds.made("p" + kind + ",1;g0=3,20;c0=2,5,50;d0=20,0;");
            Bounds.says(x, "done(0, 1)", 45);
        }
    }

    private static void promise16_done_theGreatestCost() {
        PlantsCommitted x = Bounds.made("p0,0;g0=30,60;c0=9,30,50;p0,0;g1=30,60;c1=9,30,50;p0,0;g2=30,60;c2=9,30,50;d0=99,20;");
        Bounds.says(x, "done(0, 7)", 99 * 9 + 90);
    }

    private static void promise16_done_canNotIsNotCounted() {
        Bounds.asks(Bounds::none, -9, "done(1, 1)", "done(0, 0)");
    }

    // ---- 17: given

    private static void promise17_given_nobody() {
        Bounds.refused(Bounds::rich, -1, "given(4, 0, 0)", "given(-1, 0, 0)", "given(MIN, 0, 0)", "given(MAX, 0, 0)",
                "given(0, 0, 2)", "given(0, 0, -1)", "given(0, 0, MIN)", "given(0, 0, MAX)", "given(0, 3, 2)");
        Bounds.refused(Bounds12To17Test::fresh, -1, "given(0, 0, 0)");
    }

    private static void promise17_given_belowTheLeast() {
        Bounds.refused(Bounds::rich, -4, "given(0, -1, 0)", "given(0, MIN, 1)");
    }

    private static void promise17_given_bitsOfNoPlant() {
        Bounds.refused(Bounds::rich, -6, "given(0, 4, 0)", "given(0, 5, 0)", "given(0, MAX, 1)");
        Bounds.refused(Bounds::full, -6, "given(0, 8, 2)");
    }

    private static void promise17_given_whichRefusalGoesFirst() {
        Bounds.refused(Bounds::rich, -1, "given(4, -1, 0)", "given(0, -1, 2)", "given(-1, 4, 0)", "given(0, 4, -1)");
    }

    private static void promise17_given_notInTheSetGoesAheadOfCanNot() {
        Bounds.asks(Bounds::none, 0, "given(1, 0, 0)");
        Bounds.asks(Bounds::none, -9, "given(1, 1, 0)");
        Bounds.asks(Bounds::rich, 0, "given(1, 0, 1)", "given(1, 1, 1)", "given(1, 2, 0)");
    }

    private static void promise17_given_refusalsGoAheadOfNotInTheSet() {
        Bounds.refused(Bounds::rich, -6, "given(1, 4, 0)");
        Bounds.refused(Bounds::rich, -4, "given(1, -2, 0)");
    }

    private static void given(PlantsCommitted x, int asked, int a, int b) {
        x.demand(0, asked, 0);
        Bounds.says(x, "given(0, 3, 0)", a, "given(0, 3, 1)", b);
    }

    private static void promise17_given_upToMostEachThenTheNext() {
        PlantsCommitted x = Bounds.made("p0,0;p0,0;c1=2,0,0;");
        given(x, 0, 0, 0);
        given(x, 10, 10, 0);
        given(x, 11, 10, 1);
        given(x, 20, 10, 10);
        given(x, 21, -9, -9);
    }

    private static void promise17_given_leastIsGivenFirst() {
        PlantsCommitted x = Bounds.made("p0,0;p0,0;g1=4,10;c1=2,0,0;");
        given(x, 3, -9, -9);
        given(x, 4, 0, 4);
        given(x, 14, 10, 4);
        given(x, 15, 10, 5);
        x.merit(2);
        given(x, 15, 10, 5);
        PlantsCommitted full = Bounds.made("p0,0;g0=2,10;p5,0;g1=0,7;c1=9,0,0;");
        given(full, 8, -9, -9);
        given(full, 9, 2, 7);
        given(full, 17, 10, 7);
    }

    private static void promise17_given_leastCountsToMost() {
        PlantsCommitted x = Bounds.made("p0,0;g0=2,10;p0,0;c1=2,0,0;");
        given(x, 2, 2, 0);
        given(x, 10, 10, 0);
        given(x, 11, 10, 1);
        given(x, 13, 10, 3);
        given(x, 20, 10, 10);
        PlantsCommitted y = Bounds.made("p0,0;g0=30,60;p0,0;g1=30,60;c1=2,0,0;");
        given(y, 59, -9, -9);
        given(y, 60, 30, 30);
        given(y, 90, 60, 30);
        given(y, 91, 60, 31);
    }

    private static void promise17_given_reserveIsNotGiven() {
        PlantsCommitted x = Bounds.made("p0,0;p0,0;d0=5,15;");
        Bounds.says(x, "given(0, 3, 0)", 5, "given(0, 3, 1)", 0, "demand(0, 5, 16)", 515, "given(0, 3, 0)", -9);
    }

    private static void promise17_given_slowOnesWereOn() {
        PlantsCommitted x = Bounds.made("p2,1;g0=3,20;d0=20,0;");
        Bounds.says(x, "given(0, 1, 0)", 20);
    }
}
