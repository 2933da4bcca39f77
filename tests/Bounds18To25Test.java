/** Boundary cases of promises 18 to 25: the best. Names: promise, call, what. */
public final class Bounds18To25Test {
    private Bounds18To25Test() {
    }

    public static void main(String[] args) throws ReflectiveOperationException {
        Bounds.run(Bounds18To25Test.class, 18, 25);
    }

    private static PlantsCommitted fresh() {
        return new PlantsCommitted();
    }

    /** No plants, but one asked in hour 3. */
    private static PlantsCommitted lacking() {
        return Bounds.made("d3=1,0;");
    }

    /** Three that give 10 at most, of which so many are needed. */
    private static PlantsCommitted needed(int many) {
        return Bounds.made("h1;p0,0;p0,0;p0,0;d0=" + 10 * many + ",0;");
    }

    /** The dearest plan there is: all must go on, and give all that can be asked. */
    private static PlantsCommitted dearest() {
        PlantsCommitted x = Bounds.made("h5;p3,9;p3,9;p3,9;");
        for (int p = 0; p < 3; p++) {
            Bounds.calls(x, "gives(" + p + ", 30, 33)", "costs(" + p + ", 9, 30, 50)");
        }
        return Bounds.calls(x, "demand(0, 99, 0)", "demand(1, 99, 0)", "demand(2, 99, 0)", "demand(3, 99, 0)", "demand(4, 99, 0)");
    }

    // ---- 18: best

    private static void promise18_best_noneIsNotCounted() {
        Bounds.asks(Bounds::none, -9, "best()");
        Bounds.asks(Bounds18To25Test::lacking, -9, "best()");
        Bounds.asks(Bounds::rich, 21, "best()");
    }

    private static void promise18_best_noPlants() {
        Bounds.says(fresh(), "best()", 0, "demand(3, 0, 1)", 0, "best()", -9, "demand(3, 0, 0)", 1, "best()", 0);
    }

    private static void promise18_best_hoursFromHOnDoNotMatter() {
        Bounds.says(fresh(), "hours(5)", 4, "demand(4, 1, 0)", 0, "best()", -9, "hours(4)", 5, "best()", 0);
        Bounds.says(Bounds.made("h1;p0,0;d0=3,0;"), "best()", 3, "hours(5)", 1, "best()", 3);
    }

    private static void promise18_best_justEnoughAndOneLess() {
        PlantsCommitted x = Bounds.made("h2;p0,0;p0,0;d1=15,5;");
        Bounds.says(x, "best()", 15, "demand(1, 15, 6)", 1505, "best()", -9, "demand(1, 20, 0)", 1506, "best()", 20,
                "demand(1, 21, 0)", 2000, "best()", -9);
    }

    private static void promise18_best_leastOfOneThatMayNotGoOff() {
        PlantsCommitted x = Bounds.made("h2;p0,0;g0=5,9;t0=3,1;a0+1;d0=5,0;d1=5,0;");
        Bounds.says(x, "best()", 10, "demand(1, 4, 0)", 500, "best()", -9, "demand(1, 0, 0)", 400, "best()", -9, "age(0, 2)", 11,
                "best()", 5, "demand(0, 0, 0)", 500, "best()", -9, "age(0, 3)", 12, "best()", 0);
    }

    /** Three, of which but plant p, of a kind with FIGURE 3, can give or cost anything. */
    private static PlantsCommitted only(int p, int kind, String... calls) {
        PlantsCommitted x = new PlantsCommitted();
        for (int i = 0; i < 3; i++) {
            Bounds.calls(x, i == p ? "plant(" + kind + ", 3)" : "plant(0, 0)", "gives(" + i + ", 0, 0)");
        }
        for (String text : calls) {
            Bounds.call(x, text.replace("P", "" + p));
        }
        return x;
    }

    private static void promise18_best_onForUpHoursOfEachPlant() {
        for (int p = 0; p < 3; p++) {
            for (int kind = 0; kind <= 5; kind++) {
                for (int up = 1; up <= 3; up++) {
                    for (int age = 1; age <= 4; age++) {
                        PlantsCommitted x = only(p, kind, "times(P, " + up + ", 1)", "age(P, " + age + ")", "costs(P, 0, 7, 50)");
                        Bounds.says(x, "best()", 7 * (kind == 3 || kind == 5 ? 4 : Math.max(0, up - age)));
                    }
                }
            }
        }
    }

    private static void promise18_best_onForUpHoursOnceItHasGoneOn() {
        for (int p = 0; p < 3; p++) {
            for (int up = 1; up <= 3; up++) {
                PlantsCommitted x = only(p, 1, "times(P, " + up + ", 1)", "gives(P, 1, 10)", "demand(0, 1, 0)");
                Bounds.says(x, "best()", up == 1 ? 3 + 1 : -9, "demand(1, 2, 0)", 0, "best()", up <= 2 ? 3 + 3 : -9,
                        "demand(2, 3, 0)", 0, "best()", 3 + 6);
            }
        }
    }

    private static int startOf(int kind, int rest) {
        int cold = 5 + 3 * Math.min(4, rest);
        int[] starts = {5, cold, 5, 10, rest == 1 ? cold / 2 : cold, 10};
        return starts[kind];
    }

    private static void promise18_best_offForDownHoursOfEachPlant() {
        for (int p = 0; p < 3; p++) {
            for (int kind = 0; kind <= 5; kind++) {
                for (int down = 1; down <= 3; down++) {
                    for (int age = 1; age <= 4; age++) {
                        offForDownHours(p, kind, down, age);
                    }
                }
            }
        }
    }

    /** One is asked from hour t on. */
    private static void offForDownHours(int p, int kind, int down, int age) {
        PlantsCommitted x = only(p, kind, "times(P, 1, " + down + ")", "age(P, -" + age + ")", "gives(P, 1, 1)", "costs(P, 1, 0, 5)");
        for (int t = 3; t >= 0; t--) {
            x.demand(t, 1, 0);
            Bounds.says(x, "best()", down <= age + t ? 4 - t + startOf(kind, age + t) : -9);
        }
    }

    private static void promise18_best_offForDownHoursOnceItHasGoneOff() {
        for (int p = 0; p < 3; p++) {
            for (int down = 1; down <= 3; down++) {
                PlantsCommitted x = only(p, 1, "times(P, 1, " + down + ")", "age(P, 1)", "gives(P, 1, 10)", "demand(3, 1, 0)",
                        "demand(0, 1, 0)");
                Bounds.says(x, "best()", down <= 2 ? 2 + 6 : -9, "demand(1, 1, 0)", 0, "best()", down == 1 ? 3 + 3 : -9);
            }
        }
    }

    private static void promise18_best_threePlantsThatRestAndStayLongest() {
        PlantsCommitted x = Bounds.made("h5;p1,9;c0=0,1,10;t0=3,3;a0+4;p1,9;c1=0,1,10;t1=3,3;a1+3;p1,9;c2=0,1,10;t2=3,3;a2-4;");
        Bounds.says(x, "best()", 0, "demand(4, 30, 0)", 0, "best()", 5 + 5 + 47, "row(0)", 31, "row(1)", 31, "row(2)", 16);
        PlantsCommitted y = Bounds.made("h5;p1,9;c0=0,1,10;t0=3,3;a0-4;p1,9;c1=0,1,10;t1=3,3;a1+4;p1,9;c2=0,1,10;t2=3,3;a2+4;");
        Bounds.says(y, "best()", 0, "demand(4, 30, 0)", 0, "best()", 5 + 5 + 47, "row(0)", 16, "row(1)", 31, "row(2)", 31);
    }

    private static void promise18_best_mostInTheHourInWhichItGoesOn() {
        PlantsCommitted x = Bounds.made("h2;p2,3;g0=4,20;d0=7,0;d1=20,0;");
        Bounds.says(x, "best()", 27, "demand(0, 8, 0)", 700, "best()", -9, "age(0, 1)", 9, "best()", 28);
        PlantsCommitted y = Bounds.made("h2;p2,3;g0=4,20;d0=4,0;d1=20,0;");
        Bounds.says(y, "best()", 24, "demand(0, 3, 0)", 400, "best()", -9);
    }

    private static void promise18_best_upToMostOfOneThatGoesOnTheRestOfTheNext() {
        PlantsCommitted x = Bounds.made("h1;p2,1;g0=2,9;p0,0;c1=5,0,0;d0=10,0;");
        Bounds.says(x, "best()", 3 + 35, "age(0, 1)", 9, "best()", 9 + 5, "age(0, -1)", 11, "demand(0, 13, 0)", 1000, "best()", 3 + 50,
                "demand(0, 14, 0)", 1300, "best()", -9);
    }

    private static void promise18_best_startsByRestThatCounts() {
        int[] due = {8, 10, 12, 14, 14};
        for (int t = 0; t < 5; t++) {
            PlantsCommitted x = Bounds.made("h5;p1,2;g0=1,9;c0=0,0,6;a0-1;", "demand(" + t + ", 1, 0)");
            Bounds.says(x, "best()", due[t]);
        }
        for (int age = 1; age <= 4; age++) {
            PlantsCommitted x = Bounds.made("h1;p1,2;c0=0,0,6;d0=1,0;", "age(0, -" + age + ")");
            Bounds.says(x, "best()", due[age - 1]);
        }
        Bounds.says(Bounds.made("h3;p4,2;c0=0,0,6;a0+1;g0=1,9;d0=1,0;d2=1,0;"), "best()", 4);
        Bounds.says(Bounds.made("h4;p4,2;c0=0,0,6;a0+1;g0=1,9;d0=1,0;d3=1,0;"), "best()", 10);
    }

    private static void promise18_best_theGreatest() {
        Bounds.says(dearest(), "best()", 5 * (99 * 9 + 90) + 300);
    }

    private static void promise18_best_stayingOnOrStartingAnew() {
        PlantsCommitted x = Bounds.made("h3;p0,0;c0=1,5,5;a0+1;d0=2,0;d2=2,0;");
        Bounds.says(x, "best()", 19, "row(0)", 5, "costs(0, 1, 5, 6)", 10505, "best()", 19, "row(0)", 7,
                "costs(0, 1, 5, 4)", 10506, "best()", 18, "row(0)", 5);
    }

    // ---- 19: row

    private static void promise19_row_nobody() {
        Bounds.refused(Bounds::rich, -1, "row(2)", "row(-1)", "row(MIN)", "row(MAX)");
        Bounds.refused(Bounds18To25Test::fresh, -1, "row(0)");
    }

    private static void promise19_row_nobodyGoesAheadOfNone() {
        Bounds.refused(Bounds::none, -1, "row(1)", "row(-1)");
        Bounds.refused(Bounds18To25Test::lacking, -1, "row(0)");
    }

    private static void promise19_row_noneIsNotCounted() {
        Bounds.asks(Bounds::none, -9, "row(0)");
    }

    private static void promise19_row_leastAndMost() {
        Bounds.asks(Bounds::rich, 0, "row(0)");
        Bounds.asks(Bounds::rich, 15, "row(1)");
        Bounds.says(dearest(), "row(0)", 31, "row(1)", 31, "row(2)", 31);
        Bounds.says(Bounds.made("h1;p0,0;d0=1,0;"), "row(0)", 1);
    }

    private static void promise19_row_ofSeveralPlantZeroHasTheLeast() {
        Bounds.says(Bounds.made("h1;p0,0;p0,0;p0,0;d0=1,0;"), "row(0)", 0, "row(1)", 0, "row(2)", 1);
        Bounds.says(Bounds.made("h1;p0,0;p0,0;p0,0;d0=11,0;"), "row(0)", 0, "row(1)", 1, "row(2)", 1);
        Bounds.says(Bounds.made("h5;p0,0;p0,0;p0,0;"), "row(0)", 0, "row(1)", 0, "row(2)", 0);
    }

    private static void promise19_row_thenPlantOneHasTheLeast() {
        PlantsCommitted x = Bounds.made("h5;p0,0;p0,0;p0,0;d4=1,0;d0=11,0;");
        Bounds.says(x, "best()", 12, "row(0)", 0, "row(1)", 1, "row(2)", 17);
    }

    /** Hour 2 needs both; the SPARE one had better rest in one of the hours 0 and 1: it is all the same in which. */
    private static void promise19_row_theLeastAsANumber() {
        PlantsCommitted x = Bounds.made("h3;p0,0;g0=3,3;c0=0,0,0;p4,2;g1=3,3;c1=0,6,8;a1+1;d0=3,0;d1=3,0;d2=6,0;");
        Bounds.says(x, "best()", 17, "row(0)", 5, "row(1)", 6);
        PlantsCommitted y = Bounds.made("h3;p4,2;g0=3,3;c0=0,6,8;a0+1;p0,0;g1=3,3;c1=0,0,0;d0=3,0;d1=3,0;d2=6,0;");
        Bounds.says(y, "best()", 17, "row(0)", 5, "row(1)", 6);
    }

    // ---- 20: cost

    private static void promise20_cost_firstAndLastHour() {
        Bounds.asks(Bounds::rich, 4, "cost(0)");
        Bounds.asks(Bounds::rich, 5, "cost(3)");
    }

    private static void promise20_cost_nobody() {
        Bounds.refused(Bounds::rich, -1, "cost(4)", "cost(-1)", "cost(MIN)", "cost(MAX)");
    }

    private static void promise20_cost_nobodyGoesAheadOfNone() {
        Bounds.refused(Bounds::none, -1, "cost(2)", "cost(-1)");
    }

    private static void promise20_cost_noneIsNotCounted() {
        Bounds.asks(Bounds::none, -9, "cost(0)", "cost(1)");
        Bounds.asks(Bounds18To25Test::lacking, -9, "cost(0)");
    }

    private static void promise20_cost_noPlants() {
        Bounds.asks(Bounds18To25Test::fresh, 0, "cost(0)", "cost(3)");
    }

    private static void promise20_cost_startsStandInTheirHour() {
        PlantsCommitted x = Bounds.made("h4;p4,3;g0=1,9;c0=2,5,7;a0-4;d1=1,0;d3=1,0;");
        Bounds.says(x, "cost(0)", 0, "cost(1)", 2 + 5 + 19, "cost(2)", 0, "cost(3)", 2 + 5 + 5);
        int sum = 0;
        for (int t = 0; t < 5; t++) {
            sum += (int) Bounds.call(dearest(), "cost(" + t + ")");
        }
        Bounds.due("the hours together", sum, 5205);
        Bounds.says(dearest(), "cost(0)", 981 + 300, "cost(4)", 981);
    }

    private static void promise20_cost_ofOneThatGoesOnNoMoreThanItCanThere() {
        PlantsCommitted x = Bounds.made("h2;p2,1;g0=2,9;c0=1,0,4;p0,0;c1=5,0,0;a1+1;d0=10,0;d1=10,0;");
        Bounds.says(x, "best()", 42 + 14, "cost(0)", 4 + 3 + 35, "cost(1)", 9 + 5, "shown(2)", 17);
    }

    // ---- 21: margin

    private static void promise21_margin_firstAndLastHour() {
        Bounds.asks(Bounds::rich, 1, "margin(0)", "margin(1)", "margin(3)");
    }

    private static void promise21_margin_nobody() {
        Bounds.refused(Bounds::rich, -1, "margin(4)", "margin(-1)", "margin(MIN)", "margin(MAX)");
        Bounds.refused(Bounds::none, -1, "margin(2)", "margin(-1)");
    }

    private static void promise21_margin_noBestAsItIs() {
        Bounds.asks(Bounds::none, -99999, "margin(0)", "margin(1)");
        // with one more it could be done, as LEAST is then not too much
        Bounds.asks(() -> Bounds.made("h1;p0,0;g0=5,9;t0=2,1;a0+1;d0=4,0;"), -99999, "margin(0)");
    }

    private static void promise21_margin_noBestSo() {
        Bounds.asks(() -> needed(3), -99999, "margin(0)");
        Bounds.asks(Bounds18To25Test::fresh, -99999, "margin(0)", "margin(3)");
        Bounds.asks(() -> Bounds.made("h1;p0,0;d0=7,3;"), -99999, "margin(0)");
        Bounds.asks(() -> Bounds.made("h1;p0,0;d0=6,3;"), 1, "margin(0)");
    }

    private static void promise21_margin_oneAboveTheMostThatCanBeAsked() {
        PlantsCommitted x = Bounds.made("h1;p0,0;g0=0,60;p0,0;g1=0,39;c1=5,0,0;d0=99,0;");
        Bounds.says(x, "best()", 60 + 195, "margin(0)", -99999, "gives(1, 0, 40)", 39, "margin(0)", 5, "hour(0, 0)", 99);
        Bounds.says(Bounds.calls(dearest(), "gives(0, 30, 34)"), "margin(4)", 9);
    }

    private static void promise21_margin_nothingOrLessThanNothing() {
        Bounds.says(Bounds.made("h1;p0,0;c0=0,0,0;d0=5,0;"), "margin(0)", 0);
        Bounds.says(Bounds.made("h1;p0,0;c0=9,0,0;p0,0;g1=8,10;c1=1,0,0;d0=7,0;"), "margin(0)", 8 - 63);
    }

    // ---- 22: worth

    private static void promise22_worth_firstAndLast() {
        Bounds.asks(Bounds::rich, 0, "worth(0)");
        Bounds.asks(Bounds::rich, 36, "worth(1)");
    }

    private static void promise22_worth_nobody() {
        Bounds.refused(Bounds::rich, -1, "worth(2)", "worth(-1)", "worth(MIN)", "worth(MAX)");
        Bounds.refused(Bounds::none, -1, "worth(1)", "worth(-1)");
        Bounds.refused(Bounds18To25Test::fresh, -1, "worth(0)");
        Bounds.refused(Bounds18To25Test::lacking, -1, "worth(0)");
    }

    private static void promise22_worth_noBestAsItIs() {
        Bounds.asks(Bounds::none, -99999, "worth(0)");
        // without it, it could be done: nobody for nothing
        Bounds.asks(() -> Bounds.made("h1;p3,0;g0=5,9;a0+1;"), -99999, "worth(0)");
    }

    private static void promise22_worth_noBestWithoutIt() {
        Bounds.asks(() -> needed(3), -99999, "worth(0)", "worth(1)", "worth(2)");
        Bounds.asks(() -> needed(2), 0, "worth(0)", "worth(1)", "worth(2)");
    }

    private static void promise22_worth_itsAgeBindsNothing() {
        PlantsCommitted x = Bounds.made("h2;p3,0;a0+4;c0=0,7,0;");
        Bounds.says(x, "best()", 14, "worth(0)", -14);
        PlantsCommitted y = Bounds.made("h1;p0,0;g0=4,9;t0=3,1;a0+1;c0=2,0,0;p0,0;c1=1,0,0;d0=5,0;");
        Bounds.says(y, "best()", 9, "worth(0)", -4, "worth(1)", 1);
    }

    private static void promise22_worth_nothingIsChanged() {
        PlantsCommitted x = needed(2);
        Bounds.says(x, "worth(0)", 0, "worth(2)", 0, "count(0)", 3, "row(0)", 0, "row(2)", 1);
    }

    // ---- 23: hand

    private static void promise23_hand_leastAndMost() {
        Bounds.asks(() -> needed(3), 0, "hand()");
        PlantsCommitted x = Bounds.made("h1;p0,0;g0=0,60;p0,0;g1=0,60;p0,0;g2=0,60;d0=99,20;");
        Bounds.says(x, "hand()", 60, "gives(2, 0, 59)", 60, "hand()", 60, "gives(2, 0, 58)", 59, "hand()", 59,
                "demand(0, 0, 0)", 9920, "hand()", 60);
        Bounds.asks(Bounds::rich, 12, "hand()");
    }

    private static void promise23_hand_eachNumberBetween() {
        for (int reserve = 0; reserve <= 20; reserve++) {
            PlantsCommitted x = Bounds.made("h2;p0,0;g0=0,60;d0=30,20;", "demand(1, 40, " + reserve + ")");
            Bounds.says(x, "hand()", Math.min(10, 20 - reserve));
        }
        for (int asked = 0; asked <= 60; asked++) {
            PlantsCommitted x = Bounds.made("h1;p0,0;g0=0,60;", "demand(0, " + asked + ", 0)");
            Bounds.says(x, "hand()", 60 - asked);
        }
    }

    private static void promise23_hand_reserveIsKeptNotAsked() {
        // both may not be on for 5, as that is less than they give at least
        PlantsCommitted x = Bounds.made("h1;p0,0;g0=5,10;p0,0;g1=5,10;d0=5,0;");
        Bounds.says(x, "hand()", 5, "demand(0, 9, 0)", 500, "hand()", 1, "demand(0, 10, 0)", 900, "hand()", 10);
    }

    private static void promise23_hand_noneIsNotCounted() {
        Bounds.asks(Bounds::none, -9, "hand()");
        Bounds.asks(Bounds18To25Test::lacking, -9, "hand()");
    }

    private static void promise23_hand_noPlants() {
        Bounds.asks(Bounds18To25Test::fresh, 0, "hand()");
    }

    private static void promise23_hand_ofAllHoursTheLeast() {
        PlantsCommitted x = Bounds.made("h5;p0,0;g0=0,60;d4=60,0;");
        Bounds.says(x, "hand()", 0, "hours(4)", 5, "hand()", 60);
    }

    // ---- 24: likely

    private static void promise24_likely_leastAndMostOdds() {
        Bounds.asks(() -> needed(1), 7, "likely(2, 0)");
        Bounds.asks(() -> needed(1), 8, "likely(2, 1)");
        Bounds.asks(() -> needed(1), 7999, "likely(20, 0)");
        Bounds.asks(() -> needed(1), 8000, "likely(20, 1)");
        Bounds.asks(() -> needed(3), 6859, "likely(20, 0)");
        Bounds.asks(() -> needed(3), 8000, "likely(20, 1)");
    }

    private static void promise24_likely_belowTheLeast() {
        Bounds.refused(Bounds::rich, -4, "likely(1, 0)", "likely(0, 0)", "likely(-1, 1)", "likely(MIN, 1)");
    }

    private static void promise24_likely_aboveTheMost() {
        Bounds.refused(Bounds::rich, -6, "likely(21, 0)", "likely(MAX, 1)");
    }

    private static void promise24_likely_other() {
        Bounds.refused(Bounds::rich, -2, "likely(2, 2)", "likely(20, -1)", "likely(2, MIN)", "likely(20, MAX)");
    }

    private static void promise24_likely_whichRefusalGoesFirst() {
        Bounds.refused(Bounds::rich, -4, "likely(1, 2)", "likely(MIN, -1)");
        Bounds.refused(Bounds::rich, -6, "likely(21, 2)", "likely(MAX, -1)");
    }

    private static void promise24_likely_inLeastTerms() {
        Bounds.says(needed(2), "likely(2, 0)", 1, "likely(2, 1)", 2, "likely(3, 0)", 20, "likely(3, 1)", 27, "likely(4, 0)", 27,
                "likely(4, 1)", 32);
        Bounds.says(needed(3), "likely(2, 0)", 1, "likely(2, 1)", 8);
        Bounds.says(Bounds.rich(), "likely(2, 0)", 3, "likely(2, 1)", 4);
    }

    private static void promise24_likely_neverIsNothingByOne() {
        Bounds.asks(Bounds::none, 0, "likely(2, 0)", "likely(20, 0)");
        Bounds.asks(Bounds::none, 1, "likely(2, 1)", "likely(20, 1)");
        Bounds.asks(Bounds18To25Test::lacking, 0, "likely(2, 0)");
        Bounds.asks(Bounds18To25Test::lacking, 1, "likely(2, 1)");
    }

    private static void promise24_likely_alwaysIsOneByOne() {
        Bounds.asks(Bounds18To25Test::fresh, 1, "likely(2, 0)", "likely(2, 1)");
        Bounds.asks(() -> needed(0), 1, "likely(20, 0)", "likely(20, 1)");
    }

    private static void promise24_likely_whoIsNotThereBindsNothing() {
        // as it is there is no best: plant 0 may not go off, and gives more than is asked
        PlantsCommitted x = Bounds.made("h1;p3,0;g0=5,9;a0+1;p0,0;d0=4,0;");
        Bounds.says(x, "best()", -9, "likely(3, 0)", 2, "likely(3, 1)", 9);
    }

    // ---- 25: shown

    private static void promise25_shown_other() {
        Bounds.refused(Bounds::rich, -2, "shown(-1)", "shown(3)", "shown(MIN)", "shown(MAX)");
    }

    private static void promise25_shown_noBest() {
        Bounds.refused(Bounds::none, -3, "shown(0)", "shown(1)", "shown(2)");
        Bounds.refused(Bounds18To25Test::lacking, -3, "shown(0)", "shown(1)", "shown(2)");
    }

    private static void promise25_shown_nothingAskedOfAll() {
        Bounds.refused(Bounds18To25Test::fresh, -3, "shown(0)");
        Bounds.asks(Bounds18To25Test::fresh, 0, "shown(1)", "shown(2)");
        // as it must stay on, it costs something, though nothing is asked
        Bounds.refused(() -> Bounds.made("h1;p3,0;a0+1;c0=0,7,0;"), -3, "shown(0)");
        Bounds.asks(() -> Bounds.made("h1;p3,0;a0+1;c0=0,7,0;"), Float.floatToIntBits(3.5f), "shown(1)");
        Bounds.asks(() -> Bounds.made("h1;p3,0;a0+1;c0=0,7,0;"), 3, "shown(2)");
        // what is asked from H on does not count
        Bounds.refused(() -> Bounds.made("h5;d4=9,0;h4;"), -3, "shown(0)");
    }

    private static void promise25_shown_whichRefusalGoesFirst() {
        Bounds.refused(Bounds::none, -2, "shown(3)", "shown(-1)");
    }

    private static void promise25_shown_nothingIsChanged() {
        Bounds.asks(Bounds::rich, Float.floatToIntBits(1f), "shown(0)");
        Bounds.asks(Bounds::rich, Float.floatToIntBits(4.625f), "shown(1)");
        Bounds.asks(Bounds::rich, 4, "shown(2)");
    }

    private static void mean(int keep, int asked, float due) {
        PlantsCommitted x = Bounds.made("h1;p0,0;g0=0,60;a0+1;p0,0;g1=0,60;a1+1;c1=0,0,0;", "costs(0, 0, " + keep + ", 0)");
        x.demand(0, asked, 0);
        Bounds.says(x, "shown(0)", Float.floatToIntBits(due));
    }

    private static void promise25_shown_meanOfPowersOfTwoAndNextToThem() {
        mean(0, 99, 0f);
        mean(1, 61, 1f / 61f);
        mean(1, 64, 1f / 64f);
        mean(1, 99, 1f / 99f);
        mean(30, 61, 30f / 61f);
        mean(30, 90, 30f / 90f);
        mean(30, 99, 30f / 99f);
        for (int price = 0; price <= 9; price++) {
            PlantsCommitted x = Bounds.made("h1;p0,0;a0+1;d0=8,0;", "costs(0, " + price + ", 0, 0)");
            Bounds.says(x, "shown(0)", Float.floatToIntBits(price));
        }
        for (int keep = 0; keep <= 30; keep++) {
            PlantsCommitted x = Bounds.made("h1;p0,0;a0+1;d0=7,0;", "costs(0, 0, " + keep + ", 0)");
            Bounds.says(x, "shown(0)", Float.floatToIntBits((float) keep / 7f));
            PlantsCommitted y = Bounds.made("h1;p0,0;a0+1;d0=1,0;", "costs(0, 0, " + keep + ", 50)");
            Bounds.says(y, "shown(0)", Float.floatToIntBits(keep));
        }
    }

    private static void promise25_shown_theLeastAndTheGreatestMean() {
        PlantsCommitted x = Bounds.made("h5;p0,0;g0=0,60;a0+1;c0=0,0,0;p0,0;g1=0,39;c1=0,0,1;d0=99,0;d1=99,0;d2=99,0;d3=99,0;d4=99,0;");
        Bounds.says(x, "best()", 1, "shown(0)", Float.floatToIntBits(1f / 495f));
        Bounds.says(dearest(), "shown(0)", Float.floatToIntBits(5205f / 495f));
        PlantsCommitted y = Bounds.made("h1;p3,0;g0=0,60;c0=0,30,50;p3,0;g1=0,60;c1=0,30,50;p3,0;g2=0,60;c2=0,30,50;");
        Bounds.says(y, "demand(0, 1, 0)", 0, "best()", -9, "gives(0, 1, 1)", 60, "best()", 130, "shown(0)", Float.floatToIntBits(130f));
    }

    private static void promise25_shown_leansHourByHour() {
        float f = 0f;
        PlantsCommitted x = dearest();
        for (int t = 0; t < 5; t++) {
            f = (f + (float) Bounds.call(x, "cost(" + t + ")")) * 0.5f;
        }
        Bounds.says(x, "shown(1)", Float.floatToIntBits(f), "shown(2)", (int) f);
        Bounds.says(Bounds.made("h1;p0,0;d0=1,0;"), "shown(1)", Float.floatToIntBits(0.5f), "shown(2)", 0, "demand(0, 2, 0)", 100,
                "shown(1)", Float.floatToIntBits(1f), "shown(2)", 1, "demand(0, 3, 0)", 200, "shown(2)", 1, "demand(0, 4, 0)", 300,
                "shown(1)", Float.floatToIntBits(2f), "shown(2)", 2);
        PlantsCommitted first = Bounds.made("h2;p0,0;d0=4,0;");
        Bounds.says(first, "shown(2)", 1, "demand(0, 0, 0)", 400, "demand(1, 4, 0)", 0, "shown(2)", 2);
    }
}
