/** Boundary cases of promises 26 to 35: prices, what lists tell, lots. Names: promise, call, what. */
public final class Bounds26To35Test {
    private Bounds26To35Test() {
    }

    public static void main(String[] args) throws ReflectiveOperationException {
        Bounds.run(Bounds26To35Test.class, 26, 35);
    }

    private static PlantsCommitted fresh() {
        return new PlantsCommitted();
    }

    /** One plant, one hour: at a price above 0 it gives 3, else nothing. */
    private static PlantsCommitted small(int price, int asked) {
        return Bounds.made("h1;p0,0;g0=0,3;c0=0,0,0;", "price(0, " + price + ")", "demand(0, " + asked + ", 0)");
    }

    // ---- 26: price

    private static void promise26_price_leastAndMost() {
        Bounds.says(fresh(), "price(0, 99)", 0, "price(0, 0)", 99, "price(3, 1)", 0, "price(3, 98)", 1, "hour(3, 2)", 98,
                "hour(0, 2)", 0);
    }

    private static void promise26_price_nobody() {
        Bounds.refused(Bounds::rich, -1, "price(4, 0)", "price(-1, 0)", "price(MIN, 0)", "price(MAX, 0)");
    }

    private static void promise26_price_belowTheLeast() {
        Bounds.refused(Bounds::rich, -4, "price(0, -1)", "price(3, MIN)");
    }

    private static void promise26_price_aboveTheMost() {
        Bounds.refused(Bounds::rich, -6, "price(0, 100)", "price(3, MAX)");
    }

    private static void promise26_price_whichRefusalGoesFirst() {
        Bounds.refused(Bounds::rich, -1, "price(4, -1)", "price(-1, 100)");
    }

    // ---- 27: step

    private static void promise27_step_leastAndMost() {
        Bounds.says(fresh(), "step(9)", 1, "step(0)", 9, "step(0)", 0, "step(1)", 0, "count(3)", 1);
    }

    private static void promise27_step_belowTheLeast() {
        Bounds.refused(Bounds::rich, -4, "step(-1)", "step(MIN)");
    }

    private static void promise27_step_aboveTheMost() {
        Bounds.refused(Bounds::rich, -6, "step(10)", "step(MAX)");
    }

    // ---- 28: answer

    private static void promise28_answer_leastAndMost() {
        Bounds.asks(Bounds::rich, 15, "answer(0, 0)", "answer(1, 0)");
        Bounds.asks(Bounds::rich, -61, "answer(0, 1)");
        Bounds.asks(Bounds::rich, -132, "answer(1, 1)");
        Bounds.asks(Bounds::rich, 32, "answer(0, 2)");
        Bounds.asks(Bounds::rich, 36, "answer(1, 2)");
    }

    private static void promise28_answer_nobody() {
        Bounds.refused(Bounds::rich, -1, "answer(2, 0)", "answer(-1, 0)", "answer(MIN, 2)", "answer(MAX, 1)");
        Bounds.refused(Bounds26To35Test::fresh, -1, "answer(0, 0)");
    }

    private static void promise28_answer_other() {
        Bounds.refused(Bounds::rich, -2, "answer(0, -1)", "answer(1, 3)", "answer(0, MIN)", "answer(1, MAX)");
    }

    private static void promise28_answer_whichRefusalGoesFirst() {
        Bounds.refused(Bounds::rich, -1, "answer(2, 3)", "answer(-1, -1)");
    }

    private static void promise28_answer_thereIsOneWithoutBest() {
        Bounds.says(Bounds.none(), "best()", -9, "answer(0, 0)", 0, "answer(0, 1)", 0, "answer(0, 2)", 0);
    }

    private static void promise28_answer_ofSeveralTheLeastRow() {
        PlantsCommitted x = Bounds.made("h5;p0,0;c0=0,0,0;");
        Bounds.says(x, "answer(0, 0)", 0, "answer(0, 1)", 0, "age(0, 4)", 9, "answer(0, 0)", 0, "times(0, 3, 1)", 11, "age(0, 1)", 14,
                "answer(0, 0)", 3);
        // on for a price that only pays what it costs to start
        PlantsCommitted y = Bounds.made("h1;p0,0;g0=0,5;c0=0,0,10;", "price(0, 2)");
        Bounds.says(y, "answer(0, 1)", 0, "answer(0, 0)", 0, "price(0, 3)", 2, "answer(0, 1)", -5, "answer(0, 0)", 1);
        // one hour pays, either: hour 0 alone is the lesser number
        PlantsCommitted z = Bounds.made("h2;p0,0;g0=5,5;c0=3,4,0;", "price(0, 4)", "price(1, 4)");
        Bounds.says(z, "answer(0, 0)", 3, "answer(0, 1)", -2, "costs(0, 3, 5, 0)", 30400, "answer(0, 0)", 0, "answer(0, 1)", 0);
    }

    private static void promise28_answer_mostAboveItsPriceElseLeast() {
        PlantsCommitted x = Bounds.made("h1;p3,0;g0=3,10;c0=5,0,0;a0+1;");
        Bounds.says(x, "price(0, 4)", 0, "answer(0, 2)", 3, "answer(0, 1)", 3, "price(0, 5)", 4, "answer(0, 2)", 3, "answer(0, 1)", 0,
                "price(0, 6)", 5, "answer(0, 2)", 10, "answer(0, 1)", -10, "price(0, 99)", 6, "answer(0, 1)", -940,
                "price(0, 0)", 99, "answer(0, 1)", 15);
    }

    private static void promise28_answer_mostInTheHourInWhichItGoesOn() {
        PlantsCommitted x = Bounds.made("h2;p2,2;g0=3,10;c0=5,0,0;", "price(0, 6)", "price(1, 6)");
        Bounds.says(x, "answer(0, 0)", 3, "answer(0, 2)", 15, "answer(0, 1)", -15, "age(0, 1)", 9, "answer(0, 2)", 20, "age(0, -1)", 11,
                "gives(0, 3, 4)", 310, "answer(0, 2)", 8);
    }

    private static void promise28_answer_startsCountTheRest() {
        PlantsCommitted x = Bounds.made("h2;p1,2;g0=0,5;c0=0,0,3;a0-3;", "price(1, 2)");
        // hour 1 pays 10: to go on in hour 0 costs 9, a rest more makes it 11
        Bounds.says(x, "answer(0, 0)", 3, "answer(0, 1)", -1, "times(0, 1, 3)", 11, "age(0, -2)", 7, "answer(0, 0)", 2, "answer(0, 1)", -1,
                "times(0, 1, 1)", 13, "answer(0, 0)", 3, "answer(0, 1)", -3);
    }

    private static void promise28_answer_theGreatestAndTheLeastNet() {
        PlantsCommitted x = Bounds.made("h5;p0,0;g0=0,60;c0=0,0,0;");
        for (int t = 0; t < 5; t++) {
            x.price(t, 99);
        }
        Bounds.says(x, "answer(0, 0)", 31, "answer(0, 1)", -5 * 60 * 99, "answer(0, 2)", 300);
        PlantsCommitted y = Bounds.made("h5;p5,0;g0=30,60;c0=9,30,50;a0+4;");
        Bounds.says(y, "answer(0, 0)", 31, "answer(0, 1)", 5 * (60 * 9 + 30), "answer(0, 2)", 300);
    }

    // ---- 29: bound

    private static void promise29_bound_noPlants() {
        Bounds.asks(Bounds26To35Test::fresh, 0, "bound()");
        PlantsCommitted x = fresh();
        x.hours(5);
        for (int t = 0; t < 5; t++) {
            Bounds.says(x, "bound()", 9801 * t, "demand(" + t + ", 99, 20)", 0, "price(" + t + ", 99)", 0);
        }
        Bounds.says(x, "bound()", 49005, "hours(1)", 5, "bound()", 9801);
    }

    private static void promise29_bound_theLeast() {
        PlantsCommitted x = Bounds.made("h5;p0,0;g0=0,60;c0=0,0,0;p0,0;g1=0,60;c1=0,0,0;p0,0;g2=0,60;c2=0,0,0;");
        for (int t = 0; t < 5; t++) {
            x.price(t, 99);
        }
        Bounds.says(x, "bound()", -3 * 29700);
    }

    private static void promise29_bound_isThereWithoutBest() {
        Bounds.asks(Bounds::none, 0, "bound()");
        Bounds.asks(() -> Bounds.made("h1;p3,0;g0=5,9;c0=2,1,0;a0+1;"), 11, "bound()");
        Bounds.asks(Bounds::rich, -104, "bound()");
    }

    // ---- 30: rounds

    private static void promise30_rounds_leastAndMost() {
        Bounds.asks(Bounds::rich, -104, "rounds(0, -1)");
        Bounds.asks(Bounds::rich, 5, "rounds(0, 0)");
        Bounds.asks(Bounds::rich, 3, "rounds(0, 3)");
        // 9, then 6 by 2, 6 by 3 .. 6 by 6 more, and no more
        Bounds.asks(() -> small(0, 9), 9 + 3 + 2 + 1 + 1 + 1, "rounds(20, 0)");
        Bounds.asks(() -> small(0, 9), 9 * 17 - 3 * 17, "rounds(20, -1)");
    }

    private static void promise30_rounds_belowTheLeast() {
        Bounds.refused(Bounds::rich, -4, "rounds(-1, 0)", "rounds(MIN, -1)");
    }

    private static void promise30_rounds_aboveTheMost() {
        Bounds.refused(Bounds::rich, -6, "rounds(21, 0)", "rounds(MAX, -1)");
    }

    private static void promise30_rounds_nobody() {
        Bounds.refused(Bounds::rich, -1, "rounds(0, 4)", "rounds(20, -2)", "rounds(1, MIN)", "rounds(1, MAX)");
    }

    private static void promise30_rounds_whichRefusalGoesFirst() {
        Bounds.refused(Bounds::rich, -4, "rounds(-1, -2)", "rounds(-1, 4)");
        Bounds.refused(Bounds::rich, -6, "rounds(21, -2)", "rounds(21, 4)");
    }

    private static void promise30_rounds_onlyInThought() {
        PlantsCommitted x = small(50, 0);
        Bounds.says(x, "rounds(2, 0)", 46, "rounds(2, 0)", 46, "hour(0, 2)", 50, "rounds(0, 0)", 50);
    }

    private static void promise30_rounds_cutTowardNothing() {
        // 3 more than is asked: 3, then 3 by 2, 3 by 3, 3 by 4
        Bounds.says(small(50, 0), "rounds(1, 0)", 47, "rounds(2, 0)", 46, "rounds(3, 0)", 45, "rounds(4, 0)", 45, "rounds(20, 0)", 45);
        // 3 less than is asked
        Bounds.says(small(50, 6), "rounds(1, 0)", 53, "rounds(2, 0)", 54, "rounds(3, 0)", 55, "rounds(4, 0)", 55, "rounds(20, 0)", 55);
        // times STEP first: 3 by 2 times by 4 is 1, not nothing
        PlantsCommitted x = small(50, 0);
        x.step(2);
        Bounds.says(x, "rounds(1, 0)", 44, "rounds(2, 0)", 41, "rounds(3, 0)", 39, "rounds(4, 0)", 38, "rounds(5, 0)", 37,
                "rounds(6, 0)", 36, "rounds(7, 0)", 36);
    }

    private static void promise30_rounds_whatAllAnswersGiveTogether() {
        PlantsCommitted x = Bounds.made("h1;p0,0;g0=0,3;c0=0,0,0;p0,0;g1=0,4;c1=0,0,0;p0,0;g2=0,5;c2=0,0,0;d0=2,0;", "price(0, 50)");
        Bounds.says(x, "rounds(1, 0)", 40, "rounds(2, 0)", 35, "demand(0, 12, 0)", 200, "rounds(20, 0)", 50, "demand(0, 13, 0)", 1200,
                "rounds(1, 0)", 51);
    }

    private static void promise30_rounds_nothingIsHeld() {
        Bounds.says(small(4, 0), "rounds(1, 0)", 1, "rounds(2, 0)", 0);
        Bounds.says(small(3, 0), "rounds(1, 0)", 0, "rounds(2, 0)", 0);
        Bounds.says(small(2, 0), "rounds(1, 0)", 0);
        Bounds.says(small(1, 0), "rounds(1, 0)", 0, "rounds(20, 0)", 0);
    }

    private static void promise30_rounds_99AreHeld() {
        Bounds.says(small(92, 9), "rounds(1, 0)", 98, "rounds(2, 0)", 99, "rounds(20, 0)", 99);
        Bounds.says(small(93, 9), "rounds(1, 0)", 99);
        Bounds.says(small(94, 9), "rounds(1, 0)", 99);
        Bounds.says(Bounds.calls(small(0, 99), "step(9)"), "rounds(1, 0)", 99, "rounds(2, 0)", 99);
        Bounds.says(Bounds.made("h1;d0=11,0;", "step(9)"), "rounds(1, 0)", 99);
        Bounds.says(Bounds.made("h1;d0=11,0;", "step(8)"), "rounds(1, 0)", 88, "rounds(2, 0)", 99);
    }

    private static void promise30_rounds_noStep() {
        Bounds.says(Bounds.calls(small(50, 9), "step(0)"), "rounds(20, 0)", 50, "rounds(20, -1)", 300);
    }

    /** Once hour 0 had another price, the plant would not go on at all. */
    private static void promise30_rounds_allPricesAtOnce() {
        PlantsCommitted x = Bounds.made("h2;p0,0;g0=0,5;c0=0,0,20;", "price(0, 3)", "price(1, 3)");
        Bounds.says(x, "answer(0, 0)", 3, "rounds(1, 0)", 0, "rounds(1, 1)", 0);
    }

    private static void promise30_rounds_theGreatestBoundMayBeTheFirst() {
        PlantsCommitted x = Bounds.calls(small(0, 2), "step(9)");
        Bounds.says(x, "rounds(0, -1)", 0, "rounds(1, 0)", 18, "rounds(1, -1)", 0);
    }

    private static void promise30_rounds_theGreatestBoundMayBeTheLast() {
        Bounds.says(Bounds.made("h1;d0=3,0;"), "rounds(0, -1)", 0, "rounds(1, -1)", 9, "rounds(2, -1)", 12, "rounds(3, -1)", 15,
                "rounds(4, -1)", 15);
        Bounds.says(small(50, 0), "rounds(0, -1)", -150, "rounds(1, -1)", -141, "rounds(2, -1)", -138);
    }

    private static void promise30_rounds_theGreatestBoundMayLieBetween() {
        // with 2 asked of one that gives 3: from 1 to nothing, then up to 9
        PlantsCommitted x = Bounds.calls(small(1, 2), "step(9)");
        Bounds.says(x, "rounds(0, -1)", -1, "rounds(1, 0)", 0, "rounds(1, -1)", 0, "rounds(2, 0)", 9, "rounds(2, -1)", 0);
    }

    // ---- 31: goes

    private static void promise31_goes_leastAndMost() {
        Bounds.asks(Bounds::rich, 0, "goes(0)");
        Bounds.says(small(50, 0), "goes(20)", 1, "hour(0, 2)", 45);
        Bounds.says(small(50, 0), "goes(1)", 1, "hour(0, 2)", 47, "goes(1)", 1, "hour(0, 2)", 44);
    }

    private static void promise31_goes_belowTheLeast() {
        Bounds.refused(Bounds::rich, -4, "goes(-1)", "goes(MIN)");
    }

    private static void promise31_goes_aboveTheMost() {
        Bounds.refused(Bounds::rich, -6, "goes(21)", "goes(MAX)");
    }

    private static void promise31_goes_noneHasAnother() {
        Bounds.asks(Bounds26To35Test::fresh, 0, "goes(20)");
        Bounds.asks(() -> Bounds.calls(Bounds.rich(), "step(0)"), 0, "goes(20)");
        Bounds.asks(() -> small(50, 3), 0, "goes(20)");
    }

    private static void promise31_goes_backToWhatItWasIsNoOther() {
        PlantsCommitted x = Bounds.made("h1;p0,0;g0=0,6;c0=0,0,0;d0=4,0;", "price(0, 2)");
        Bounds.says(x, "rounds(1, 0)", 0, "goes(2)", 0, "hour(0, 2)", 2, "goes(1)", 1, "hour(0, 2)", 0);
    }

    private static void promise31_goes_allHoursHaveOthers() {
        for (int h = 1; h <= 5; h++) {
            PlantsCommitted x = Bounds.made("h5;d0=1,0;d1=1,0;d2=1,0;d3=1,0;d4=1,0;", "hours(" + h + ")");
            Bounds.says(x, "goes(1)", h, "hours(5)", h, "goes(0)", 0);
            for (int t = 0; t < 5; t++) {
                Bounds.says(x, "hour(" + t + ", 2)", t < h ? 1 : 0);
            }
        }
    }

    // ---- 32: repaired

    private static void promise32_repaired_leastAndMost() {
        Bounds.asks(Bounds::rich, 44, "repaired(-1)");
        Bounds.asks(Bounds::rich, 15, "repaired(0)", "repaired(1)");
    }

    private static void promise32_repaired_nobody() {
        Bounds.refused(Bounds::rich, -1, "repaired(2)", "repaired(-2)", "repaired(MIN)", "repaired(MAX)");
        Bounds.refused(Bounds26To35Test::fresh, -1, "repaired(0)");
    }

    private static void promise32_repaired_nobodyGoesAheadOfNone() {
        Bounds.refused(Bounds::none, -1, "repaired(1)", "repaired(-2)");
    }

    private static void promise32_repaired_noneIsNotCounted() {
        Bounds.asks(Bounds::none, -9, "repaired(-1)", "repaired(0)");
        Bounds.asks(() -> Bounds.made("d3=0,1;"), -9, "repaired(-1)");
    }

    private static void promise32_repaired_noPlants() {
        Bounds.asks(Bounds26To35Test::fresh, 0, "repaired(-1)");
    }

    private static void promise32_repaired_fewestOthersThoughDearer() {
        // plant 1 answers, and is kept, though plant 0 would do it for less
        PlantsCommitted x = Bounds.made("h1;p0,0;g0=3,3;c0=0,6,0;p0,0;g1=3,3;c1=0,0,9;a1+1;d0=3,0;", "price(0, 1)");
        Bounds.says(x, "answer(0, 0)", 0, "answer(1, 0)", 1, "repaired(-1)", 0, "costs(1, 0, 2, 9)", 9, "repaired(-1)", 2,
                "costs(0, 0, 1, 9)", 600, "repaired(0)", 0, "repaired(1)", 1);
        // both would have to be otherwise, or only plant 0: that is done
        PlantsCommitted y = Bounds.made("h1;p0,0;p0,0;c1=9,0,0;p0,0;c2=0,0,0;d0=5,0;", "price(0, 2)");
        Bounds.says(y, "answer(0, 0)", 1, "answer(1, 0)", 0, "answer(2, 0)", 1, "repaired(0)", 1, "repaired(1)", 0, "repaired(2)", 1);
    }

    /** For the price of hour 1 plant 0 stays on, though plant 1 would do hour 0 for nothing. */
    private static void promise32_repaired_whatCostsLessButIsOtherwiseIsNotTaken() {
        String text = "h2;p0,0;g0=3,3;c0=0,6,50;a0+1;p0,0;g1=3,3;c1=0,0,0;d0=3,0;d1=6,0;";
        PlantsCommitted x = Bounds.made(text, "price(1, 99)");
        Bounds.says(x, "answer(0, 0)", 3, "answer(1, 0)", 2, "repaired(0)", 3, "repaired(1)", 2, "repaired(-1)", 12);
        String other = "h2;p0,0;g0=3,3;c0=0,0,0;p0,0;g1=3,3;c1=0,6,50;a1+1;d0=3,0;d1=6,0;";
        PlantsCommitted y = Bounds.made(other, "price(1, 99)");
        Bounds.says(y, "answer(0, 0)", 2, "answer(1, 0)", 3, "repaired(0)", 2, "repaired(1)", 3, "repaired(-1)", 12);
    }

    private static void promise32_repaired_ofSeveralTheLeastCost() {
        PlantsCommitted x = Bounds.made("h1;p0,0;c0=2,0,0;p0,0;c1=1,0,0;p0,0;c2=2,0,0;d0=5,0;");
        Bounds.says(x, "repaired(-1)", 5, "repaired(0)", 0, "repaired(1)", 1, "repaired(2)", 0);
        // one less is enough
        Bounds.says(x, "demand(0, 1, 0)", 500, "repaired(-1)", 1, "repaired(0)", 0, "repaired(1)", 1, "demand(0, 5, 0)", 100);
        // what it costs to start counts
        Bounds.says(x, "costs(1, 1, 0, 6)", 10000, "repaired(-1)", 10, "repaired(0)", 1, "repaired(1)", 0);
    }

    private static void promise32_repaired_ofSeveralTheLeastAsBits() {
        PlantsCommitted x = Bounds.made("h1;p0,0;p0,0;p0,0;d0=5,0;");
        Bounds.says(x, "repaired(0)", 1, "repaired(1)", 0, "repaired(2)", 0, "demand(0, 15, 0)", 500, "repaired(0)", 1,
                "repaired(1)", 1, "repaired(2)", 0, "demand(0, 30, 0)", 1500, "repaired(2)", 1, "demand(0, 31, 0)", 3000,
                "repaired(2)", -9);
    }

    private static void promise32_repaired_nobodyForNothing() {
        PlantsCommitted x = Bounds.made("h5;p0,0;c0=0,0,0;p0,0;c1=0,0,0;p0,0;c2=0,0,0;");
        Bounds.says(x, "repaired(-1)", 0, "repaired(0)", 0, "repaired(1)", 0, "repaired(2)", 0);
    }

    private static void promise32_repaired_mostInTheHourInWhichItGoesOn() {
        PlantsCommitted x = Bounds.made("h1;p2,1;g0=2,9;p0,0;c1=5,0,0;d0=3,0;", "price(0, 3)");
        Bounds.says(x, "repaired(-1)", 3, "repaired(0)", 1, "repaired(1)", 0, "demand(0, 4, 0)", 300, "repaired(-1)", 3 + 5,
                "repaired(0)", 1, "repaired(1)", 1, "age(0, 1)", 9, "repaired(-1)", 4, "repaired(1)", 0);
    }

    private static void promise32_repaired_onlyWhereItMayGo() {
        PlantsCommitted x = Bounds.made("h2;p0,0;t0=1,2;a0-1;p0,0;c1=9,0,0;d0=1,0;d1=1,0;");
        Bounds.says(x, "repaired(0)", 2, "repaired(1)", 1, "repaired(-1)", 10);
        PlantsCommitted y = Bounds.made("h2;p0,0;t0=2,1;a0-1;g0=1,9;d0=1,0;");
        Bounds.says(y, "repaired(-1)", -9, "times(0, 1, 1)", 21, "repaired(-1)", 1);
    }

    private static void promise32_repaired_aLaterHourMayHaveNoneThoughThereIsBest() {
        // hour by hour plant 0 is taken, that may not go off then
        PlantsCommitted x = Bounds.made("h2;p3,0;g0=2,9;p0,0;c1=2,0,0;d0=2,0;d1=1,0;");
        Bounds.says(x, "best()", 6, "repaired(-1)", -9, "demand(1, 2, 0)", 100, "repaired(-1)", 4);
    }

    // ---- 33: judge

    /** Three that give just 1, 2 and 4: who is on in an hour is told by what is asked. */
    private static PlantsCommitted exact(int a, int b, int c, int d) {
        return Bounds.made("p0,0;g0=1,1;p0,0;g1=2,2;p0,0;g2=4,4;", "demand(0, " + a + ", 0)", "demand(1, " + b + ", 0)",
                "demand(2, " + c + ", 0)", "demand(3, " + d + ", 0)");
    }

    private static PlantsCommitted rows(PlantsCommitted x, int... rows) {
        Bounds.call(x, "list(0, " + rows.length + ")");
        for (int i = 0; i < rows.length; i++) {
            Bounds.call(x, "put(0, " + i + ", " + rows[i] + ")");
        }
        return x;
    }

    private static void promise33_judge_nobody() {
        Bounds.refused(Bounds::rich, -1, "judge(4)", "judge(-1)", "judge(MIN)", "judge(MAX)");
    }

    private static void promise33_judge_missing() {
        Bounds.refused(Bounds::rich, -11, "judge(3)");
        Bounds.refused(Bounds26To35Test::fresh, -11, "judge(0)");
    }

    private static void promise33_judge_allCanBeDone() {
        Bounds.asks(Bounds::rich, -9, "judge(0)");
        Bounds.says(rows(exact(5, 3, 6, 1), 11, 6, 5), "judge(0)", -9);
        Bounds.says(rows(exact(0, 0, 0, 0), 0, 0, 0), "judge(0)", -9);
        Bounds.says(rows(exact(7, 7, 7, 7), 15, 15, 15), "judge(0)", -9);
    }

    private static void promise33_judge_theFirstHourThatCannotBeDone() {
        for (int t = 0; t < 4; t++) {
            PlantsCommitted x = rows(exact(7, 7, 7, 7), 15, 15 - (1 << t), 15);
            Bounds.says(x, "judge(0)", t);
            Bounds.says(rows(x, 7, 15 - (1 << t), 15), "judge(0)", t);
            Bounds.says(Bounds.calls(x, "hours(" + Math.max(1, t) + ")"), "judge(0)", t == 0 ? 0 : -9);
        }
    }

    private static void promise33_judge_theFirstHourThatIsNotLawful() {
        PlantsCommitted off = Bounds.made("h5;p0,0;t0=3,1;a0+1;");
        for (int row = 0; row < 4; row++) {
            Bounds.says(rows(off, (1 << row) - 1), "judge(0)", row < 2 ? row : -9);
        }
        PlantsCommitted on = Bounds.made("h5;p0,0;t0=1,3;a0-1;");
        for (int row = 0; row < 4; row++) {
            Bounds.says(rows(on, 31 << row & 31), "judge(0)", row < 2 ? row : -9);
        }
        Bounds.says(rows(off, 1 + 2 + 8 + 16), "judge(0)", -9);
        Bounds.says(rows(off, 1 + 2 + 8), "judge(0)", 4);
        Bounds.says(rows(off, 1 + 2 + 4 + 16), "judge(0)", -9);
        PlantsCommitted base = Bounds.made("h5;p3,0;");
        Bounds.says(rows(base, 8), "judge(0)", 4);
        Bounds.says(rows(base, 24), "judge(0)", -9);
    }

    private static void promise33_judge_mostInTheHourInWhichItGoesOn() {
        for (int t = 0; t < 4; t++) {
            PlantsCommitted x = Bounds.made("p2,1;g0=2,9;", "demand(" + t + ", 3, 0)");
            Bounds.says(rows(x, 1 << t), "judge(0)", -9, "demand(" + t + ", 4, 0)", 300, "judge(0)", t, "demand(" + t + ", 3, 1)", 400,
                    "judge(0)", t);
        }
        for (int p = 0; p < 3; p++) {
            PlantsCommitted x = Bounds.made("h1;p2,1;g0=2,9;p2,1;g1=2,9;p2,1;g2=2,9;d0=3,0;");
            int[] told = {p == 0 ? 1 : 0, p == 1 ? 1 : 0, p == 2 ? 1 : 0};
            Bounds.says(rows(x, told), "judge(0)", -9, "demand(0, 4, 0)", 300, "judge(0)", 0, "age(" + p + ", 1)", 9, "judge(0)", -9);
        }
        PlantsCommitted y = Bounds.made("h2;p2,1;g0=2,9;d0=3,0;d1=9,0;");
        Bounds.says(rows(y, 3), "judge(0)", -9, "demand(0, 9, 0)", 300, "judge(0)", 0, "age(0, 1)", 9, "judge(0)", -9);
    }

    private static void promise33_judge_bitsAboveDoNotMatter() {
        for (int above : new int[] {16, 32, 1 << 30, Integer.MIN_VALUE, -16}) {
            Bounds.says(rows(exact(5, 3, 6, 1), 11 | above, 6 | above, 5 | above), "judge(0)", -9);
        }
        Bounds.says(rows(exact(7, 7, 7, 7), -1, Integer.MAX_VALUE, -1), "judge(0)", -9);
        Bounds.says(rows(exact(0, 0, 0, 0), Integer.MIN_VALUE, 16, 0), "judge(0)", -9);
        PlantsCommitted x = rows(exact(5, 3, 6, 1), 11 + 16, 6, 5);
        Bounds.says(x, "judge(0)", -9, "hours(5)", 4, "judge(0)", 4);
    }

    private static void promise33_judge_theListEndsTooSoon() {
        PlantsCommitted x = exact(7, 7, 7, 7);
        Bounds.says(rows(x), "judge(0)", 100);
        Bounds.says(rows(x, 0), "judge(0)", 101);
        Bounds.says(rows(x, 15, 15), "judge(0)", 102);
        Bounds.says(rows(x, 15, 15, 15), "judge(0)", -9);
    }

    private static void promise33_judge_placesBehindTheLastPlantsDoNotMatter() {
        Bounds.says(rows(exact(5, 3, 6, 1), 11, 6, 5, 9), "judge(0)", -9);
        PlantsCommitted x = Bounds.calls(exact(0, 0, 0, 0), "list(1, 20)", "put(1, 3, -1)", "put(1, 19, -1)");
        Bounds.says(x, "judge(1)", -9, "put(1, 2, 8)", 1, "judge(1)", 3);
    }

    private static void promise33_judge_noPlants() {
        PlantsCommitted x = rows(fresh());
        Bounds.says(x, "judge(0)", -9, "demand(3, 1, 0)", 0, "judge(0)", 3, "demand(0, 0, 1)", 0, "judge(0)", 0);
    }

    // ---- 34: whatIs

    private static PlantsCommitted told(String plant, int... starts) {
        return rows(Bounds.made(plant), starts);
    }

    private static void promise34_whatIs_nobody() {
        Bounds.refused(Bounds::rich, -1, "whatIs(4, 0, 0)", "whatIs(-1, 0, 0)", "whatIs(MIN, 0, 0)", "whatIs(MAX, 0, 0)",
                "whatIs(1, 2, 0)", "whatIs(1, -1, 0)", "whatIs(1, MIN, 0)", "whatIs(1, MAX, 0)");
        Bounds.refused(Bounds26To35Test::fresh, -1, "whatIs(0, 0, 0)");
    }

    private static void promise34_whatIs_other() {
        Bounds.refused(Bounds::rich, -2, "whatIs(1, 0, -1)", "whatIs(1, 0, 2)", "whatIs(1, 1, MIN)", "whatIs(1, 1, MAX)");
    }

    private static void promise34_whatIs_missing() {
        Bounds.refused(Bounds::rich, -11, "whatIs(3, 0, 0)", "whatIs(3, 1, 1)");
    }

    private static void promise34_whatIs_whichRefusalGoesFirst() {
        Bounds.refused(Bounds::rich, -1, "whatIs(4, 0, 2)", "whatIs(3, 2, 2)", "whatIs(3, -1, 0)");
        Bounds.refused(Bounds::rich, -2, "whatIs(3, 0, 2)", "whatIs(3, 0, -1)");
    }

    private static void promise34_whatIs_nothingIsChanged() {
        Bounds.asks(Bounds::rich, 2, "whatIs(1, 0, 0)");
        Bounds.asks(Bounds::rich, 8, "whatIs(1, 0, 1)");
    }

    private static void promise34_whatIs_ofNoneAllIsSo() {
        Bounds.asks(Bounds::rich, 63, "whatIs(2, 0, 0)", "whatIs(2, 1, 0)");
        Bounds.asks(Bounds::rich, 1023, "whatIs(2, 0, 1)", "whatIs(2, 1, 1)");
    }

    private static void promise34_whatIs_leastAndMostFigure() {
        Bounds.says(told("p1,0;c0=0,0,5;", 5), "whatIs(0, 0, 1)", 1, "whatIs(0, 0, 0)", 7);
        Bounds.says(told("p1,0;c0=0,0,5;", 14), "whatIs(0, 0, 1)", 512, "whatIs(0, 0, 0)", 0);
        Bounds.says(told("p1,0;c0=0,0,5;", 15), "whatIs(0, 0, 1)", 0);
        Bounds.says(told("p1,0;c0=0,0,5;", 4), "whatIs(0, 0, 1)", 0);
        Bounds.says(told("p4,0;c0=0,0,5;", 2), "whatIs(0, 0, 1)", 1);
        Bounds.says(told("p4,0;c0=0,0,5;", 7), "whatIs(0, 0, 1)", 512);
        Bounds.says(told("p4,0;c0=0,0,5;", 3), "whatIs(0, 0, 1)", 6);
    }

    private static void promise34_whatIs_allKindsAtOnceAndNone() {
        Bounds.says(told("p0,0;c0=0,0,0;", 0, 0, 0), "whatIs(0, 0, 0)", 63, "whatIs(0, 0, 1)", 1023);
        Bounds.says(told("p0,0;c0=0,0,0;", 0, 0, 1), "whatIs(0, 0, 0)", 0, "whatIs(0, 0, 1)", 0);
        Bounds.says(told("p5,9;c0=0,0,50;", 100), "whatIs(0, 0, 0)", 40, "whatIs(0, 0, 1)", 1023);
        Bounds.says(told("p5,9;c0=0,0,50;", 50), "whatIs(0, 0, 0)", 5, "whatIs(0, 0, 1)", 0);
        Bounds.says(told("p0,9;c0=0,0,50;", Integer.MIN_VALUE), "whatIs(0, 0, 0)", 0);
        Bounds.says(told("p0,9;c0=0,0,50;", Integer.MAX_VALUE), "whatIs(0, 0, 0)", 0);
    }

    private static void promise34_whatIs_fiveAndMoreCountAsFour() {
        int[] starts = new int[20];
        for (int i = 0; i < 20; i++) {
            starts[i] = 7 + 3 * Math.min(4, i + 1);
        }
        Bounds.says(told("p1,3;c0=0,0,7;", starts), "whatIs(0, 0, 0)", 2, "whatIs(0, 0, 1)", 8);
        for (int i = 0; i < 20; i++) {
            PlantsCommitted x = told("p1,3;c0=0,0,7;", starts);
            Bounds.says(x, "put(0, " + i + ", " + (starts[i] + 1) + ")", 1, "whatIs(0, 0, 0)", 0, "whatIs(0, 0, 1)", 0);
        }
        starts[0] = 5;
        Bounds.says(told("p1,3;c0=0,0,7;", starts), "whatIs(0, 0, 0)", 16, "whatIs(0, 0, 1)", 0);
        Bounds.says(told("p4,3;c0=0,0,7;", starts), "whatIs(0, 0, 0)", 16, "whatIs(0, 0, 1)", 8);
    }

    // ---- 35: lots

    /** Whatever is drawn can be done, for 1 each. */
    private static PlantsCommitted able(int h) {
        return Bounds.made("h" + h + ";p0,0;g0=0,60;p0,0;g1=0,60;d0=7,0;");
    }

    private static int seedBehind(int z, int draws) {
        int seed = z;
        for (int i = 0; i < draws; i++) {
            seed = seed * 1664525 + 1013904223;
        }
        return seed;
    }

    private static void promise35_lots_leastAndMost() {
        Bounds.asks(() -> able(5), 1, "lots(1, 0, 0)");
        Bounds.asks(() -> able(5), 314, "lots(1, 0, 1)");
        Bounds.asks(() -> able(5), 20, "lots(20, 0, 0)");
        int sum = 0;
        for (int i = 0; i < 20; i++) {
            sum += (int) Bounds.call(able(5), "lots(1, " + seedBehind(0, 5 * i) + ", 1)");
        }
        int all = sum;
        Bounds.asks(() -> able(5), all, "lots(20, 0, 1)");
    }

    private static void promise35_lots_aDrawForEachHourThatIsThere() {
        Bounds.asks(() -> able(1), 63 + 77, "lots(2, 0, 1)");
        Bounds.asks(() -> able(1), 63 + 77 + 86 + 39 + 49 + 90, "lots(6, 0, 1)");
        Bounds.asks(() -> able(2), 63 + 77 + 86 + 39, "lots(2, 0, 1)");
        Bounds.asks(() -> able(3), 63 + 77 + 86 + 39 + 49 + 90, "lots(2, 0, 1)");
    }

    private static void promise35_lots_belowTheLeast() {
        Bounds.refused(Bounds::rich, -4, "lots(0, 0, 0)", "lots(-1, 0, 0)", "lots(MIN, 0, 1)");
    }

    private static void promise35_lots_aboveTheMost() {
        Bounds.refused(Bounds::rich, -6, "lots(21, 0, 0)", "lots(MAX, 0, 1)");
    }

    private static void promise35_lots_other() {
        Bounds.refused(Bounds::rich, -2, "lots(1, 0, -1)", "lots(20, 0, 2)", "lots(1, 0, MIN)", "lots(20, 0, MAX)");
    }

    private static void promise35_lots_whichRefusalGoesFirst() {
        Bounds.refused(Bounds::rich, -4, "lots(0, 0, 2)");
        Bounds.refused(Bounds::rich, -6, "lots(21, 0, -1)");
    }

    private static void promise35_lots_seedsWhereTheNumberWrapsAround() {
        Bounds.asks(() -> able(5), 318, "lots(1, 1, 1)");
        Bounds.asks(() -> able(5), 192, "lots(1, -1, 1)");
        Bounds.asks(() -> able(5), 192, "lots(1, MAX, 1)");
        Bounds.asks(() -> able(5), 314, "lots(1, MIN, 1)");
        Bounds.asks(() -> able(5), 333, "lots(1, 9, 1)");
        Bounds.asks(() -> able(5), 164, "lots(1, -77, 1)");
    }

    private static void promise35_lots_leastAndMostDraw() {
        Bounds.asks(() -> able(1), 0, "lots(1, 18, 1)");
        Bounds.asks(() -> able(1), 99, "lots(1, 115, 1)");
        Bounds.asks(() -> Bounds.made("h1;"), 1, "lots(1, 18, 0)");
        Bounds.asks(() -> Bounds.made("h1;"), 0, "lots(1, 115, 0)", "lots(1, 115, 1)");
    }

    private static void promise35_lots_hoursByTheirNumbers() {
        // 6 in hour 0, in which it goes on, 35 in hour 1; the other way round it can't
        Bounds.says(Bounds.made("h2;p2,6;g0=0,35;"), "lots(1, 21, 0)", 1, "lots(1, 21, 1)", 41);
        Bounds.says(Bounds.made("h2;p2,5;g0=0,35;"), "lots(1, 21, 0)", 0, "lots(1, 21, 1)", 0);
        Bounds.says(Bounds.made("h2;p2,6;g0=0,34;"), "lots(1, 21, 0)", 0);
    }

    private static void promise35_lots_reserveStays() {
        PlantsCommitted x = Bounds.made("h2;p0,0;g0=0,55;");
        Bounds.says(x, "demand(1, 0, 20)", 0, "lots(1, 21, 0)", 1, "gives(0, 0, 54)", 55, "lots(1, 21, 0)", 0);
    }

    private static void promise35_lots_ofNoneNothing() {
        // 63 is drawn, 65, 61, 81
        for (int z : new int[] {0, 1, -1, 9}) {
            Bounds.asks(() -> Bounds.made("h1;p0,0;g0=0,60;"), 0, "lots(1, " + z + ", 0)", "lots(1, " + z + ", 1)");
        }
        Bounds.asks(() -> Bounds.made("h1;p0,0;g0=0,60;p0,0;g1=0,3;"), 1, "lots(1, 0, 0)");
        Bounds.asks(() -> Bounds.made("h1;p0,0;g0=0,60;p0,0;g1=0,2;"), 0, "lots(1, 0, 0)");
    }

    private static void promise35_lots_whatIsAskedNowIsOfNoAccount() {
        Bounds.asks(() -> Bounds.made("h1;p0,0;d0=99,0;"), -9, "best()");
        Bounds.asks(() -> Bounds.made("h1;p0,0;d0=99,0;"), 1, "lots(1, 18, 0)");
    }
}
