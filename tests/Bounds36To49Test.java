/** Boundary cases of promises 36 to 49: lists, the purse, racks, the image, what is told. Names: promise, call, what. */
public final class Bounds36To49Test {
    private Bounds36To49Test() {
    }

    public static void main(String[] args) throws ReflectiveOperationException {
        Bounds.run(Bounds36To49Test.class, 36, 49);
    }

    private static PlantsCommitted fresh() {
        return new PlantsCommitted();
    }

    /** The rows 11, 6 and 5 by BEST: three that give just 1, 2 and 4, so who is on is told by what is asked. */
    private static PlantsCommitted exact() {
        return asked(Bounds.made("p0,0;g0=1,1;c0=0,0,0;p0,0;g1=2,2;c1=0,0,0;p0,0;g2=4,4;c2=1,0,0;"), 5, 3, 6, 1);
    }

    private static PlantsCommitted asked(PlantsCommitted x, int... demands) {
        for (int t = 0; t < demands.length; t++) {
            x.demand(t, demands[t], 0);
        }
        return x;
    }

    // ---- 36: list

    private static void promise36_list_leastAndMost() {
        Bounds.says(fresh(), "list(0, 0)", 1, "put(0, 0, 1)", -13, "list(3, 20)", 1, "put(3, 19, 1)", 1, "put(3, 20, 1)", -13,
                "list(0, 1)", 1, "put(0, 0, 1)", 1, "put(0, 1, 1)", -13);
    }

    private static void promise36_list_nobody() {
        Bounds.refused(Bounds::rich, -1, "list(4, 0)", "list(-1, 0)", "list(MIN, 0)", "list(MAX, 0)");
    }

    private static void promise36_list_aboveTheMost() {
        Bounds.refused(Bounds::rich, -6, "list(0, 21)", "list(3, MAX)");
    }

    private static void promise36_list_aSizeBelowNothing() {
        Bounds.refused(Bounds::rich, -14, "list(0, -1)", "list(3, MIN)", "list(2, -1)");
    }

    private static void promise36_list_whichRefusalGoesFirst() {
        Bounds.refused(Bounds::rich, -1, "list(4, 21)", "list(-1, -1)");
    }

    private static void promise36_list_allAreNothingAnew() {
        PlantsCommitted x = Bounds.calls(exact(), "list(0, 3)", "put(0, 0, 15)", "put(0, 1, 15)", "put(0, 2, 15)", "list(0, 3)");
        Bounds.says(asked(x, 0, 0, 0, 0), "judge(0)", -9);
        Bounds.says(asked(x, 0, 0, 0, 1), "judge(0)", 3);
        // what was behind the end of a lesser one is nothing, too
        PlantsCommitted y = Bounds.calls(exact(), "list(1, 3)", "put(1, 2, 15)", "list(1, 1)", "list(1, 3)");
        Bounds.says(asked(y, 0, 0, 0, 0), "judge(1)", -9);
    }

    private static void promise36_list_oneLeavesTheOthers() {
        PlantsCommitted x = Bounds.calls(exact(), "list(0, 3)", "lays(0, 0)", "list(1, 3)", "list(2, 0)", "list(3, 20)");
        Bounds.says(x, "judge(0)", -9, "judge(1)", 0, "judge(2)", 100, "judge(3)", 0);
    }

    // ---- 37: put

    private static void promise37_put_firstAndLastPlace() {
        PlantsCommitted x = Bounds.calls(exact(), "list(0, 3)");
        Bounds.says(x, "put(0, 0, 11)", 1, "put(0, 1, 6)", 1, "judge(0)", 0, "put(0, 2, 5)", 1, "judge(0)", -9);
    }

    private static void promise37_put_nobody() {
        Bounds.refused(Bounds::rich, -1, "put(4, 0, 0)", "put(-1, 0, 0)", "put(MIN, 0, 0)", "put(MAX, 0, 0)");
    }

    private static void promise37_put_missing() {
        Bounds.refused(Bounds::rich, -11, "put(3, 0, 0)");
    }

    private static void promise37_put_noSuchPlace() {
        Bounds.refused(Bounds::rich, -13, "put(0, 3, 0)", "put(0, -1, 9)", "put(0, 19, 9)", "put(0, 20, 9)", "put(0, MIN, 9)",
                "put(0, MAX, 9)", "put(2, 0, 9)");
        PlantsCommitted x = Bounds.calls(fresh(), "list(0, 20)", "list(0, 5)");
        Bounds.says(x, "put(0, 5, 1)", -13, "put(0, 4, 1)", 1);
    }

    private static void promise37_put_whichRefusalGoesFirst() {
        Bounds.refused(Bounds::rich, -1, "put(4, -1, 0)");
        Bounds.refused(Bounds::rich, -11, "put(3, -1, 0)", "put(3, 20, 0)");
    }

    private static void promise37_put_anyNumberIsTaken() {
        PlantsCommitted x = Bounds.calls(exact(), "list(0, 3)");
        Bounds.says(x, "put(0, 0, MIN)", 1, "put(0, 1, MAX)", 1, "put(0, 2, -1)", 1);
        Bounds.says(asked(x, 6, 6, 6, 6), "judge(0)", -9, "put(0, 0, -2)", 1, "judge(0)", 1);
    }

    // ---- 38: lays

    private static void promise38_lays_firstAndLastPlace() {
        Bounds.says(exact(), "list(3, 3)", 1, "lays(3, 0)", 3, "judge(3)", -9);
        // the last place of the last plant is the list's last
        PlantsCommitted x = exact();
        Bounds.says(x, "list(0, 20)", 1, "put(0, 0, 3)", 1, "lays(0, 17)", 3, "lays(0, 18)", -13, "lays(0, 1)", 3);
        Bounds.says(asked(x, 3, 7, 0, 2), "judge(0)", 2);
        Bounds.says(asked(x, 3, 7, 4, 2), "judge(0)", -9);
    }

    private static void promise38_lays_nobody() {
        Bounds.refused(Bounds::rich, -1, "lays(4, 0)", "lays(-1, 0)", "lays(MIN, 0)", "lays(MAX, 0)");
        Bounds.refused(Bounds::none, -1, "lays(4, 0)");
    }

    private static void promise38_lays_noBest() {
        Bounds.refused(Bounds::none, -3, "lays(0, 0)");
        Bounds.refused(() -> Bounds.made("d0=1,0;", "list(0, 3)"), -3, "lays(0, 0)");
    }

    private static void promise38_lays_missing() {
        Bounds.refused(Bounds::rich, -11, "lays(3, 0)");
        Bounds.refused(Bounds36To49Test::fresh, -11, "lays(0, 0)");
    }

    private static void promise38_lays_noPlaceForTheFirst() {
        Bounds.refused(Bounds::rich, -13, "lays(0, 3)", "lays(0, -1)", "lays(0, -2)", "lays(0, MIN)", "lays(0, MAX)", "lays(2, 0)",
                "lays(0, 19)", "lays(0, 20)");
    }

    private static void promise38_lays_whichRefusalGoesFirst() {
        Bounds.refused(Bounds::none, -3, "lays(3, 0)", "lays(0, -1)", "lays(3, -1)");
        Bounds.refused(Bounds::rich, -11, "lays(3, -1)", "lays(3, 20)");
        Bounds.refused(Bounds::none, -1, "lays(-1, -1)");
    }

    private static void promise38_lays_thoseAheadOfTheFirstWithoutPlaceAreLaid() {
        PlantsCommitted x = Bounds.calls(exact(), "list(0, 3)");
        Bounds.says(x, "lays(0, 1)", -13);
        // 0, 11, 6 by now
        Bounds.says(asked(x, 2, 6, 4, 2), "judge(0)", -9);
        PlantsCommitted y = Bounds.calls(exact(), "list(0, 3)");
        Bounds.says(y, "lays(0, 2)", -13);
        // 0, 0, 11
        Bounds.says(asked(y, 4, 4, 0, 4), "judge(0)", -9);
        PlantsCommitted z = Bounds.calls(exact(), "list(0, 3)");
        Bounds.says(z, "lays(0, 3)", -13, "lays(0, -1)", -13, "lays(0, -2)", -13, "count(13)", 0);
        Bounds.says(asked(z, 0, 0, 0, 0), "judge(0)", -9);
    }

    private static void promise38_lays_otherPlacesStay() {
        PlantsCommitted x = Bounds.calls(Bounds.made("h1;p0,0;p0,0;d0=3,0;"), "list(0, 3)", "put(0, 0, 7)", "put(0, 2, 5)", "lays(0, 1)");
        // 7, then 0 and 1 by BEST
        Bounds.says(x, "judge(0)", -9, "plant(0, 0)", 2, "demand(0, 11, 0)", 300, "judge(0)", -9, "demand(0, 20, 0)", 1100,
                "judge(0)", -9, "demand(0, 21, 0)", 2000, "judge(0)", 0);
    }

    private static void promise38_lays_noPlants() {
        Bounds.says(fresh(), "list(0, 0)", 1, "lays(0, 0)", 0, "lays(0, -1)", 0, "lays(0, MAX)", 0, "lays(0, MIN)", 0,
                "lays(1, 0)", -11, "lays(4, 0)", -1);
    }

    // ---- 39: pays

    private static PlantsCommitted holding(long purse) {
        return Bounds.calls(fresh(), "pays(" + purse + ", 1)");
    }

    private static void promise39_pays_leastAndMostPurse() {
        Bounds.says(fresh(), "pays(MAX, 1)", 1, "purse()", Long.MAX_VALUE, "pays(1, 1)", -7, "pays(0, 5)", 1, "purse()", Long.MAX_VALUE,
                "pays(-1, MAX)", 1, "purse()", 0);
        Bounds.says(fresh(), "pays(MIN, 1)", 1, "purse()", Long.MIN_VALUE, "pays(1, -1)", -7, "pays(0, -5)", 1,
                "purse()", Long.MIN_VALUE, "pays(1, MAX)", 1, "purse()", -1);
        Bounds.says(fresh(), "pays(1, MIN)", 1, "pays(MAX, 1)", 1, "pays(1, 1)", 1, "purse()", 0);
    }

    private static void promise39_pays_aPurseThatWouldBeNoLong() {
        Bounds.refused(() -> holding(Long.MAX_VALUE), -7, "pays(1, 1)", "pays(-1, -1)", "pays(1, MAX)", "pays(2, 1)");
        Bounds.refused(() -> holding(Long.MIN_VALUE), -7, "pays(1, -1)", "pays(-1, 1)", "pays(1, MIN)", "pays(-1, MAX)");
        Bounds.refused(() -> holding(1), -7, "pays(1, MAX)", "pays(MAX, 1)");
        Bounds.refused(() -> holding(-1), -7, "pays(1, MIN)", "pays(MIN, 1)");
        Bounds.asks(() -> Bounds.calls(holding(1), "purse()"), 1, "pays(0, MAX)");
        Bounds.says(holding(-1), "pays(1, MAX)", 1, "purse()", Long.MAX_VALUE - 1);
        Bounds.says(holding(1), "pays(1, MIN)", 1, "purse()", Long.MIN_VALUE + 1);
    }

    private static void promise39_pays_aProductThatIsNoLong() {
        Bounds.refused(Bounds::rich, -7, "pays(MIN, -1)", "pays(-1, MIN)", "pays(MIN, 2)", "pays(2, MIN)", "pays(MAX, 2)", "pays(2, MAX)",
                "pays(MAX, MAX)", "pays(MIN, MIN)", "pays(MIN, MAX)", "pays(MAX, MIN)", "pays(4294967296, 2147483648)",
                "pays(4294967296, 4294967296)", "pays(-4294967296, -2147483648)", "pays(3037000500, 3037000500)",
                "pays(-3037000500, -3037000500)", "pays(3074457345618258603, 3)", "pays(MAX, -2)");
        // though the purse would be a long in the end
        Bounds.refused(() -> holding(Long.MIN_VALUE), -7, "pays(MIN, -1)", "pays(2, 4611686018427387904)");
        Bounds.refused(() -> holding(Long.MAX_VALUE), -7, "pays(MAX, -2)");
    }

    private static void promise39_pays_productsThatAreJustLongs() {
        Bounds.says(fresh(), "pays(3037000499, 3037000499)", 1, "purse()", 9223372030926249001L);
        Bounds.says(fresh(), "pays(4294967296, -2147483648)", 1, "purse()", Long.MIN_VALUE);
        Bounds.says(fresh(), "pays(-2147483648, 4294967296)", 1, "purse()", Long.MIN_VALUE);
        Bounds.says(fresh(), "pays(MAX, -1)", 1, "purse()", -Long.MAX_VALUE);
        Bounds.says(fresh(), "pays(-1, MAX)", 1, "purse()", -Long.MAX_VALUE);
        Bounds.says(fresh(), "pays(3074457345618258602, 3)", 1, "purse()", Long.MAX_VALUE - 1);
        Bounds.says(fresh(), "pays(0, MIN)", 1, "pays(MIN, 0)", 1, "pays(0, 0)", 1, "purse()", 0);
    }

    // ---- 40: purse

    private static void promise40_purse_leastAndMost() {
        Bounds.asks(() -> holding(Long.MAX_VALUE), Long.MAX_VALUE, "purse()");
        Bounds.asks(() -> holding(Long.MIN_VALUE), Long.MIN_VALUE, "purse()");
        Bounds.asks(Bounds36To49Test::fresh, 0, "purse()");
        Bounds.asks(Bounds::rich, 77, "purse()");
    }

    // ---- 41: bills

    /** What BEST costs is 1. */
    private static PlantsCommitted dueOne(long purse) {
        return Bounds.calls(Bounds.made("h1;p0,0;d0=1,0;"), "pays(" + purse + ", 1)");
    }

    private static void promise41_bills_noBest() {
        Bounds.refused(Bounds::none, -3, "bills(0)", "bills(1)", "bills(-1)", "bills(MAX)", "bills(MIN)");
        Bounds.refused(() -> Bounds.calls(Bounds.none(), "pays(-7, 1)", "pays(MIN, 1)"), -3, "bills(1)");
    }

    private static void promise41_bills_leastAndMostTimes() {
        Bounds.says(dueOne(0), "bills(MAX)", 1, "purse()", -2147483647L, "bills(MIN)", 1, "purse()", 1, "bills(1)", 1, "purse()", 0,
                "bills(-1)", 1, "purse()", 1, "bills(0)", 1, "purse()", 1);
        PlantsCommitted x = Bounds.made("h1;p0,0;g0=0,60;c0=9,0,0;p0,0;g1=0,60;c1=9,0,0;d0=99,0;");
        Bounds.says(x, "best()", 891, "bills(MAX)", 1, "purse()", -891 * 2147483647L, "bills(MIN)", 1, "purse()", 891);
    }

    private static void promise41_bills_aPurseThatWouldBeNoLong() {
        Bounds.refused(() -> dueOne(Long.MIN_VALUE), -7, "bills(1)", "bills(MAX)", "bills(2)");
        Bounds.refused(() -> dueOne(Long.MAX_VALUE), -7, "bills(-1)", "bills(MIN)", "bills(-2)");
        Bounds.refused(() -> dueOne(Long.MIN_VALUE + 1), -7, "bills(2)");
        Bounds.refused(() -> dueOne(Long.MAX_VALUE - 1), -7, "bills(-2)");
        Bounds.says(dueOne(Long.MIN_VALUE), "bills(0)", 1, "purse()", Long.MIN_VALUE, "bills(-1)", 1, "bills(1)", 1,
                "purse()", Long.MIN_VALUE);
        Bounds.says(dueOne(Long.MAX_VALUE), "bills(0)", 1, "purse()", Long.MAX_VALUE, "bills(1)", 1, "bills(-1)", 1,
                "purse()", Long.MAX_VALUE);
        Bounds.says(dueOne(Long.MIN_VALUE + Integer.MAX_VALUE), "bills(MAX)", 1, "purse()", Long.MIN_VALUE);
        Bounds.says(dueOne(Long.MAX_VALUE + Integer.MIN_VALUE), "bills(MIN)", 1, "purse()", Long.MAX_VALUE);
        Bounds.says(dueOne(Long.MAX_VALUE + Integer.MIN_VALUE + 1), "bills(MIN)", -7);
    }

    private static void promise41_bills_noBestGoesAheadOfOver() {
        Bounds.refused(() -> Bounds.calls(Bounds.none(), "pays(-7, 1)", "pays(MAX, 1)"), -3, "bills(-1)");
    }

    private static void promise41_bills_ofABestThatCostsNothing() {
        Bounds.asks(() -> holding(Long.MIN_VALUE), 1, "bills(MAX)", "bills(MIN)", "bills(1)");
    }

    // ---- 42: rack

    private static void promise42_rack_leastAndMost() {
        PlantsCommitted x = Bounds.made("p0,0;");
        Bounds.says(x, "rack(0, 0, 0)", 1, "racked(0, 0, 1)", -13, "rack(2, 5, 9)", 1, "racked(2, 8, 1)", -9, "racked(2, 9, 1)", -13,
                "rack(2, 0, 9)", 1, "racks(2, 8, 0)", 1, "racks(2, 9, 0)", -13);
        for (int kind = 0; kind <= 5; kind++) {
            Bounds.says(x, "rack(1, " + kind + ", 1)", 1, "racked(1, 0, 1)", -9, "racked(1, 1, 1)", -13);
        }
    }

    private static void promise42_rack_nobody() {
        Bounds.refused(Bounds::rich, -1, "rack(3, 0, 0)", "rack(-1, 0, 0)", "rack(MIN, 0, 0)", "rack(MAX, 0, 0)");
    }

    private static void promise42_rack_other() {
        Bounds.refused(Bounds::rich, -2, "rack(0, 6, 0)", "rack(0, -1, 0)", "rack(2, MIN, 0)", "rack(2, MAX, 0)");
    }

    private static void promise42_rack_aboveTheMost() {
        Bounds.refused(Bounds::rich, -6, "rack(0, 0, 10)", "rack(2, 5, MAX)");
    }

    private static void promise42_rack_aSizeBelowNothing() {
        Bounds.refused(Bounds::rich, -14, "rack(0, 0, -1)", "rack(2, 5, MIN)");
    }

    private static void promise42_rack_whichRefusalGoesFirst() {
        Bounds.refused(Bounds::rich, -1, "rack(3, 6, 0)", "rack(-1, 0, 10)", "rack(3, 0, -1)");
        Bounds.refused(Bounds::rich, -2, "rack(0, 6, 10)", "rack(0, -1, -1)");
    }

    private static void promise42_rack_allAreEmptyAnew() {
        PlantsCommitted x = Bounds.calls(Bounds.made("p0,0;"), "rack(0, 0, 9)");
        for (int i = 0; i < 9; i++) {
            Bounds.says(x, "racks(0, " + i + ", 0)", 1);
        }
        Bounds.says(x, "rack(0, 0, 1)", 1, "racked(0, 0, 1)", -9, "rack(0, 0, 9)", 1);
        for (int i = 0; i < 9; i++) {
            Bounds.says(x, "racked(0, " + i + ", 1)", -9);
        }
    }

    private static void promise42_rack_isMadeForAnotherKindAnew() {
        PlantsCommitted x = Bounds.calls(Bounds.made("p0,0;"), "rack(0, 5, 1)");
        Bounds.says(x, "racks(0, 0, 0)", -16, "rack(0, 0, 1)", 1, "racks(0, 0, 0)", 1, "rack(0, 6, 1)", -2, "racked(0, 0, 1)", 0);
    }

    // ---- 43: racks

    private static void promise43_racks_firstAndLastPlace() {
        Bounds.says(Bounds.rich(), "racks(0, 0, 0)", 1, "racks(0, 1, 0)", 1, "racked(0, 1, 1)", 8, "racks(0, 1, -1)", 1,
                "racked(0, 1, 1)", -9, "racked(0, 0, 1)", 8);
        Bounds.says(Bounds.full(), "rack(0, 0, 9)", 1, "racks(0, 0, 2)", 1, "racks(0, 8, 0)", 1);
    }

    private static void promise43_racks_nobody() {
        Bounds.refused(Bounds::rich, -1, "racks(3, 0, 0)", "racks(-1, 0, 0)", "racks(MIN, 0, -1)", "racks(MAX, 0, -1)", "racks(0, 0, 2)",
                "racks(0, 0, -2)", "racks(0, 0, MIN)", "racks(0, 0, MAX)");
        Bounds.refused(() -> Bounds.calls(fresh(), "rack(0, 0, 1)"), -1, "racks(0, 0, 0)");
    }

    private static void promise43_racks_missing() {
        Bounds.refused(Bounds::rich, -11, "racks(2, 0, 0)", "racks(2, 0, -1)");
    }

    private static void promise43_racks_noSuchPlace() {
        Bounds.refused(Bounds::rich, -13, "racks(0, 2, 0)", "racks(0, -1, 0)", "racks(0, 8, 0)", "racks(0, 9, 0)", "racks(0, MIN, -1)",
                "racks(0, MAX, -1)", "racks(1, 0, 0)", "racks(1, 0, -1)");
    }

    private static void promise43_racks_notMadeForSuch() {
        Bounds.refused(Bounds::rich, -16, "racks(0, 0, 1)", "racks(0, 1, 1)");
    }

    private static void promise43_racks_whichRefusalGoesFirst() {
        Bounds.refused(Bounds::rich, -1, "racks(3, -1, 0)", "racks(2, 0, 2)", "racks(0, 5, -2)", "racks(2, -1, 2)");
        Bounds.refused(Bounds::rich, -11, "racks(2, -1, 0)", "racks(2, 9, 1)");
        Bounds.refused(Bounds::rich, -13, "racks(0, 2, 1)", "racks(0, -1, 1)");
    }

    private static void promise43_racks_nothingFitsEverywhere() {
        for (int kind = 0; kind <= 5; kind++) {
            Bounds.says(fresh(), "rack(0, " + kind + ", 1)", 1, "racks(0, 0, -1)", 1, "racked(0, 0, 1)", -9);
        }
    }

    private static void promise43_racks_aKindAndThoseUnderIt() {
        String[] fit = {"012345", "14", "235", "35", "4", "5"};
        for (int r = 0; r <= 5; r++) {
            for (int k = 0; k <= 5; k++) {
                PlantsCommitted x = Bounds.calls(fresh(), "plant(" + k + ", 0)", "rack(0, " + r + ", 1)");
                Bounds.says(x, "racks(0, 0, 0)", fit[r].indexOf('0' + k) >= 0 ? 1 : -16, "count(12)", 0);
            }
        }
    }

    private static void promise43_racks_asItWasWhenLaid() {
        PlantsCommitted x = Bounds.rich();
        Bounds.says(x, "costs(0, 0, 0, 50)", 20105, "racked(0, 0, 1)", 8, "racks(0, 0, 0)", 1, "racked(0, 0, 1)", 53, "on()", 1,
                "racked(0, 0, 1)", 53, "racked(0, 0, 4)", 62);
    }

    // ---- 44: racked

    private static void promise44_racked_leastAndMostHours() {
        Bounds.asks(Bounds::rich, 8, "racked(0, 0, 1)");
        Bounds.asks(Bounds::rich, 17, "racked(0, 0, 9)", "racked(0, 0, 5)", "racked(0, 0, 4)");
        Bounds.asks(Bounds::rich, 14, "racked(0, 0, 3)");
    }

    private static void promise44_racked_nobody() {
        Bounds.refused(Bounds::rich, -1, "racked(3, 0, 1)", "racked(-1, 0, 1)", "racked(MIN, 0, 1)", "racked(MAX, 0, 1)");
    }

    private static void promise44_racked_belowTheLeast() {
        Bounds.refused(Bounds::rich, -4, "racked(0, 0, 0)", "racked(0, 0, -1)", "racked(0, 0, MIN)");
    }

    private static void promise44_racked_aboveTheMost() {
        Bounds.refused(Bounds::rich, -6, "racked(0, 0, 10)", "racked(0, 0, MAX)");
    }

    private static void promise44_racked_missing() {
        Bounds.refused(Bounds::rich, -11, "racked(2, 0, 1)");
    }

    private static void promise44_racked_noSuchPlace() {
        Bounds.refused(Bounds::rich, -13, "racked(0, 2, 1)", "racked(0, -1, 1)", "racked(0, 8, 1)", "racked(0, 9, 1)",
                "racked(0, MIN, 1)", "racked(0, MAX, 1)", "racked(1, 0, 1)");
    }

    private static void promise44_racked_nothingIsNotCounted() {
        Bounds.asks(Bounds::rich, -9, "racked(0, 1, 1)", "racked(0, 1, 9)");
    }

    private static void promise44_racked_whichRefusalGoesFirst() {
        Bounds.refused(Bounds::rich, -1, "racked(3, 0, 0)", "racked(3, 0, 10)", "racked(-1, -1, 1)");
        Bounds.refused(Bounds::rich, -4, "racked(2, 0, 0)", "racked(0, 2, 0)", "racked(0, 1, 0)");
        Bounds.refused(Bounds::rich, -6, "racked(2, 0, 10)", "racked(0, -1, 10)", "racked(0, 1, 10)");
        Bounds.refused(Bounds::rich, -11, "racked(2, -1, 1)", "racked(2, 9, 1)");
    }

    // ---- 45: like

    private static void promise45_like_sizes() {
        for (int n = 0; n <= 9; n++) {
            Bounds.says(fresh(), "rack(0, 0, " + n + ")", 1, "like(2, 0)", n, "racked(2, " + n + ", 1)", -13,
                    "racked(2, " + (n - 1) + ", 1)", n == 0 ? -13 : -9);
        }
    }

    private static void promise45_like_nobody() {
        Bounds.refused(Bounds::rich, -1, "like(3, 0)", "like(-1, 0)", "like(MIN, 0)", "like(MAX, 0)", "like(0, 3)", "like(0, -1)",
                "like(0, MIN)", "like(0, MAX)");
    }

    private static void promise45_like_theOtherIsMissing() {
        Bounds.refused(Bounds::rich, -11, "like(0, 2)", "like(1, 2)", "like(2, 2)");
    }

    private static void promise45_like_whichRefusalGoesFirst() {
        Bounds.refused(Bounds::rich, -1, "like(3, 2)", "like(-1, 2)");
    }

    private static void promise45_like_itself() {
        Bounds.asks(Bounds::rich, 2, "like(0, 0)");
        Bounds.asks(Bounds::rich, 0, "like(1, 1)");
    }

    private static void promise45_like_aMissingOneBecomesARow() {
        Bounds.says(Bounds.rich(), "racked(2, 0, 1)", -11, "like(2, 0)", 2, "racked(2, 0, 1)", 8, "racked(2, 1, 1)", -9,
                "racks(2, 1, 1)", -16, "like(2, 1)", 0, "racked(2, 0, 1)", -13);
    }

    private static void promise45_like_asThatIsNow() {
        PlantsCommitted x = Bounds.calls(Bounds.rich(), "like(2, 0)", "costs(0, 0, 0, 50)", "racks(0, 0, 0)", "racks(0, 1, 0)");
        Bounds.says(x, "racked(2, 0, 1)", 8, "racked(2, 1, 1)", -9, "racks(2, 0, -1)", 1, "racked(0, 0, 1)", 53);
        Bounds.says(Bounds.calls(x, "rack(0, 5, 9)"), "racked(2, 2, 1)", -13, "racks(2, 1, 0)", 1);
    }

    // ---- 46: image

    private static void promise46_image_howManyPlants() {
        PlantsCommitted x = fresh();
        for (int n = 0; n <= 3; n++) {
            Bounds.says(x, "image()", n, "plant(0, 0)", n < 3 ? n : -6, "on()", n, "plant(0, 0)", n < 3 ? n : -6);
        }
    }

    private static void promise46_image_theLaterTakesThePlaceOfTheEarlier() {
        Bounds.says(fresh(), "step(2)", 1, "image()", 0, "step(3)", 2, "image()", 0, "step(4)", 3, "on()", 0, "count(3)", 3, "on()", 0);
    }

    // ---- 47: on

    private static void promise47_on_thereIsNone() {
        Bounds.refused(Bounds36To49Test::fresh, -3, "on()");
        Bounds.refused(Bounds::none, -3, "on()");
        Bounds.refused(Bounds::full, -3, "on()");
    }

    private static void promise47_on_asThenAgainAndAgain() {
        PlantsCommitted x = Bounds.calls(Bounds.rich(), "image()", "plant(5, 9)", "gives(0, 30, 60)", "costs(1, 9, 30, 50)",
                "times(0, 3, 3)", "age(0, 4)", "age(1, -4)", "demand(0, 99, 20)", "hours(5)", "demand(4, 0, 0)", "price(4, 0)",
                "price(3, 99)", "merit(2)", "step(9)", "pays(1, 5)", "on()");
        Bounds.sameButFor(x, Bounds.calls(Bounds.rich(), "image()"), "on()", 0);
        PlantsCommitted y = Bounds.calls(Bounds.rich(), "image()", "hours(1)", "on()", "gives(0, 0, 0)", "pays(MIN, 1)", "on()", "on()");
        Bounds.sameButFor(y, Bounds.calls(Bounds.rich(), "image()"), "on()", 0);
    }

    private static void promise47_on_anEmptyImage() {
        PlantsCommitted x = Bounds.calls(fresh(), "image()", "plant(0, 0)", "hours(1)", "demand(0, 5, 5)", "price(0, 5)", "on()");
        Bounds.sameButFor(x, Bounds.calls(fresh(), "image()"), "on()", 0);
    }

    private static void promise47_on_lettersListsRacksAndRefusalsAreNotInIt() {
        PlantsCommitted x = Bounds.calls(fresh(), "image()", "letter(104)", "list(0, 1)", "rack(0, 0, 1)", "hour(9, 0)", "on()");
        Bounds.says(x, "count(4)", 1, "count(11)", 1, "judge(0)", -9, "racked(0, 0, 1)", -9);
        PlantsCommitted y = Bounds.calls(fresh(), "letter(104)", "list(0, 1)", "rack(0, 0, 1)", "hour(9, 0)", "image()", "tells()",
                "list(0, 2)", "rack(0, 0, 2)", "hour(9, 0)", "on()");
        Bounds.says(y, "count(4)", 0, "count(11)", 2, "put(0, 1, 0)", 1, "racked(0, 1, 1)", -9);
    }

    private static void promise47_on_leastAndMostPurse() {
        for (long purse : new long[] {Long.MIN_VALUE, Long.MAX_VALUE, 0}) {
            PlantsCommitted x = Bounds.calls(holding(purse), "image()", "pays(1, 1)", "pays(-1, 1)", "pays(-1, 1)");
            Bounds.says(x, "on()", 0, "purse()", purse);
        }
    }

    // ---- 48: count

    private static void promise48_count_leastAndMostOfEach() {
        PlantsCommitted x = fresh();
        Bounds.says(x, "count(0)", 0, "hours(1)", 4, "count(1)", 1, "count(2)", 0, "step(0)", 1, "count(3)", 0, "count(4)", 0, "count(5)", 0);
        PlantsCommitted y = Bounds.calls(Bounds.full(), "hours(5)", "merit(2)", "step(9)");
        for (int t = 0; t < 5; t++) {
            y.demand(t, 99, 20);
        }
        Bounds.says(y, "count(0)", 3, "count(1)", 5, "count(2)", 2, "count(3)", 9, "count(4)", 120, "count(5)", 495);
    }

    private static void promise48_count_anotherWhatIsNotCounted() {
        Bounds.asks(Bounds::rich, -9, "count(-1)", "count(6)", "count(7)", "count(10)", "count(17)", "count(MIN)", "count(MAX)");
    }

    private static void promise48_count_eachRefusalBySelf() {
        Bounds.refused(Bounds::rich, -1, "of(9, 0)");
        Bounds.refused(Bounds::rich, -2, "merit(9)");
        Bounds.refused(Bounds::rich, -3, "age(0, 0)");
        Bounds.refused(Bounds::rich, -4, "step(-1)");
        Bounds.refused(Bounds::rich, -6, "step(10)");
        PlantsCommitted x = fresh();
        for (int i = 1; i <= 40; i++) {
            Bounds.says(x, "merit(9)", -2, "count(12)", i, "step(-1)", -4, "count(14)", i);
        }
        Bounds.says(x, "count(11)", 0, "count(13)", 0, "count(15)", 0, "count(16)", 0);
    }

    private static void promise48_count_upToThe512thCall() {
        PlantsCommitted x = fresh();
        for (int i = 0; i < 255; i++) {
            x.tells();
            x.merit(i % 2 == 0 ? 3 : -1);
        }
        Bounds.says(x, "count(12)", 255, "best()", 0);
    }

    private static void promise48_count_refusalsOfLongsToo() {
        Bounds.refused(Bounds::rich, -1, "answer(9, 0)");
        Bounds.refused(Bounds::rich, -2, "shown(9)");
        Bounds.refused(Bounds::none, -3, "shown(0)");
        Bounds.refused(Bounds::rich, -4, "likely(1, 0)");
        Bounds.refused(Bounds::rich, -6, "rounds(21, 0)");
    }

    private static void promise48_count_theseAreNotCounted() {
        Bounds.refused(() -> holding(Long.MAX_VALUE), -7, "pays(1, 1)");
        Bounds.refused(Bounds::rich, -11, "judge(3)");
        Bounds.refused(Bounds::rich, -13, "put(0, 3, 0)");
        Bounds.refused(Bounds::rich, -14, "list(0, -1)");
        Bounds.refused(Bounds::rich, -16, "racks(0, 1, 1)");
    }

    private static void promise48_count_onlyWhatIsAskedInHoursThatAreThere() {
        PlantsCommitted x = Bounds.calls(fresh(), "hours(5)", "demand(0, 1, 0)", "demand(1, 2, 9)", "demand(2, 4, 0)", "demand(3, 8, 0)",
                "demand(4, 16, 0)");
        for (int h = 1; h <= 5; h++) {
            Bounds.says(Bounds.calls(x, "hours(" + h + ")"), "count(5)", (1 << h) - 1);
        }
    }

    // ---- 49: hour

    private static void promise49_hour_leastAndMost() {
        PlantsCommitted x = Bounds.calls(fresh(), "demand(0, 99, 20)", "price(0, 99)", "demand(3, 98, 19)", "price(3, 97)");
        Bounds.says(x, "hour(0, 0)", 99, "hour(0, 1)", 20, "hour(0, 2)", 99, "hour(3, 0)", 98, "hour(3, 1)", 19, "hour(3, 2)", 97,
                "hour(1, 0)", 0, "hour(1, 1)", 0, "hour(1, 2)", 0);
    }

    private static void promise49_hour_nobody() {
        Bounds.refused(Bounds::rich, -1, "hour(4, 0)", "hour(-1, 0)", "hour(5, 0)", "hour(MIN, 0)", "hour(MAX, 0)");
    }

    private static void promise49_hour_other() {
        Bounds.refused(Bounds::rich, -2, "hour(0, -1)", "hour(0, 3)", "hour(3, MIN)", "hour(3, MAX)");
    }

    private static void promise49_hour_whichRefusalGoesFirst() {
        Bounds.refused(Bounds::rich, -1, "hour(4, 3)", "hour(-1, -1)");
    }

    private static void promise49_hour_nothingIsChanged() {
        Bounds.asks(Bounds::rich, 9, "hour(1, 0)");
        Bounds.asks(Bounds::rich, 1, "hour(1, 1)");
        Bounds.asks(Bounds::rich, 6, "hour(1, 2)");
    }
}
