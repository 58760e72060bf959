/** The boundary cases that Term III and promises 13 to 23 name: what is AHEAD, works, lords, barges, where it ran. */
public final class EdgesAheadTest {
    private static final String STILL = "valley 3 by 2 reach 1;eats 0;";
    /** Column 1 alone goes: with SUM 1 to the row less, and as long as it can. */
    private static final String DOWN = "valley 3 by 6 reach 7;runs 1 5;eats column*(2-column)*(9-row);";
    /** Column 1 goes from row 1 to row 0 if an offer is made, where its turn is 4; it turns 2 in row 1. */
    private static final String BY_OFFER = "valley 3 by 3 reach 7;runs 0 2;runs 1 1;runs 2 2;eats pay*column*(2-column);"
        + "bend turn>3;";

    public static void main(String[] args) {
        later();
        sums();
        straight();
        fewestWillows();
        likeWillows();
        worksOfNone();
        rest();
        barge();
        cuts();
        courses();
        dreams();
        see();
        ran();
        telling();
        Check.finish();
    }

    private static void later() {
        Edges.edge("AHEAD are SEASONS as they come from now on without DRAWS", () -> {
            BentRiver x = Check.river(STILL + "spate 100;");
            for (int n = 0; n <= 60; n++) {
                Check.due("no spate in " + n, x.later(0, n) + x.later(1, n) + x.later(2, n), 0);
            }
            BentRiver y = Check.river(STILL + "spate 100;");
            Check.due("the seed stays", Check.told(x).equals(Check.told(y)), true);
            x.chance(20);
            y.chance(20);
            Check.due("the seed stays", Check.told(x).equals(Check.told(y)), true);
        });
        Edges.edge("Behind n SEASONS AHEAD (0 .. 60) the row of a column; NONE when there is none such, or n can't be.", () -> {
            BentRiver x = Check.river(DOWN.replace("(9-row)", "max(0,season-58)"));
            Check.due("now", x.later(1, 0), 5);
            Check.due("59", x.later(1, 59), 5);
            Check.due("60", x.later(1, 60), 4);
            Check.due("61", x.later(1, 61), -1);
            Check.due("-1", x.later(1, -1), -1);
            Check.due("most", x.later(1, Integer.MAX_VALUE), -1);
            Check.due("least", x.later(1, Integer.MIN_VALUE), -1);
            Check.due("the last column", x.later(2, 0), 0);
            Check.due("no column", x.later(3, 0), -1);
            Check.due("no column", x.later(-1, 0), -1);
            Check.due("without a valley", new BentRiver().later(0, 0), -1);
        });
        Edges.edge("(60 at most, not beyond SEASON 999)", () -> {
            BentRiver x = Edges.inSeason(939, STILL);
            Check.due("to SEASON 999", x.later(0, 60), 0);
            Check.due("to SEASON 999", x.sums(60, 0), 0);
            BentRiver y = Edges.inSeason(940, STILL);
            Check.due("beyond", y.later(0, 60), -1);
            Check.due("beyond", y.sums(60, 0), -1);
            Check.due("to SEASON 999", y.later(0, 59), 0);
            BentRiver z = Edges.inSeason(999, STILL);
            Check.due("now", z.later(0, 0), 0);
            Check.due("now", z.sums(0, 0), 0);
            Check.due("none comes", z.later(0, 1), -1);
            Check.due("none comes", z.sums(1, 0), -1);
        });
    }

    private static void sums() {
        Edges.edge("Behind n SEASONS AHEAD (0 .. 60): 0 BENDS, 1 the FUND, 2 the purse of all LORDS together. "
            + "NONE when n can't be, without a valley, or for others.", () -> {
            BentRiver x = Check.river(STILL + "bend column=0;lord a from 0 to 0 pays 1 joy 0 purse 60;"
                + "lord b from 0 to 2 pays 0 joy 0 purse 999;");
            int[][] due = {{1, 0, 1059}, {1, 59, 1000}, {1, 60, 999}};
            int[] behind = {0, 59, 60};
            for (int i = 0; i < 3; i++) {
                for (int what = 0; what < 3; what++) {
                    Check.due("sums(" + behind[i] + ", " + what + ")", x.sums(behind[i], what), due[i][what]);
                }
            }
            Check.due("the first column", Check.river(STILL + "bend column=0;").sums(1, 0), 1);
            Check.due("the last column", Check.river(STILL + "bend column=2;").sums(1, 0), 1);
            Check.due("no column", Check.river(STILL + "bend column>2;").sums(1, 0), 0);
            for (int what = 0; what < 3; what++) {
                Check.due("61", x.sums(61, what), -1);
                Check.due("-1", x.sums(-1, what), -1);
                Check.due("without a valley", new BentRiver().sums(0, what), -1);
            }
            Check.due("others", x.sums(0, 3), -1);
            Check.due("others", x.sums(0, -1), -1);
            Check.due("without lords", Check.river(STILL).sums(60, 2), 0);
        });
    }

    private static void straight() {
        Edges.edge("It is STRAIGHT, if there is no BEND.", () -> {
            Check.due("none", Check.river(STILL + "bend not all;").straight(), 0);
            Check.due("one", Check.river(STILL + "bend column=2;").straight(), -1);
            Check.due("one", Check.river(STILL + "bend column=0;").straight(), -1);
            Check.due("in no column", Check.river(STILL + "bend column>2;").straight(), 0);
        });
        Edges.edge("Behind how many SEASONS AHEAD (0: now) it is STRAIGHT first; NONE when it is not, or without a valley.", () -> {
            Check.due("1", Check.river(STILL + "bend season<1;").straight(), 1);
            Check.due("first", Check.river(STILL + "bend not season=2 and not season=4;").straight(), 2);
            Check.due("60", Check.river(STILL + "bend season<60;").straight(), 60);
            Check.due("not in 60", Check.river(STILL + "bend season<61;").straight(), -1);
            Check.due("in SEASON 999", Edges.inSeason(990, STILL + "bend season<999;").straight(), 9);
            Check.due("not beyond", Edges.inSeason(990, STILL + "bend season<1000;").straight(), -1);
            Check.due("now, in the last", Edges.inSeason(999, STILL + "bend season<999;").straight(), 0);
            Check.due("without a valley", new BentRiver().straight(), -1);
            // three seasons would do it, two come
            String three = "valley 3 by 4 reach 7;runs 1 3;eats column*(2-column)*(4-row);";
            Check.due("three", Edges.inSeason(996, three).straight(), 3);
            Check.due("two", Edges.inSeason(997, three).straight(), -1);
        });
    }

    private static void works(BentRiver x, int column, int row, int n, int... due) {
        String call = "works(" + column + ", " + row + ", " + n + ", ";
        Check.due(call + "NONE)", x.works(column, row, n, -1), due.length);
        for (int k = 0; k < due.length; k++) {
            Check.due(call + k + ")", x.works(column, row, n, k), due[k]);
        }
        Check.due(call + due.length + ")", x.works(column, row, n, due.length), -1);
    }

    /** From row 1 column 1 alone goes, to row 0 with SUM less, to row 2 with SUM more, each less by its roots. */
    private static BentRiver between(int less, int more) {
        return Check.river("valley 3 by 3 reach 7;runs 1 1;eats max(0,1-(column-1)*(column-1))*(max(0,1-row)*" + less
            + "+max(0,row-1)*" + more + "-roots);");
    }

    private static void fewestWillows() {
        Edges.edge("the fewest willows (2 at most, set now, 9 in a CELL at most), so that it runs there behind n SEASONS", () -> {
            works(between(3, 2), 1, 0, 1);
            // alike are 2 and 2, so that it takes two
            works(between(3, 2), 1, 2, 1, 8, 8);
            works(between(2, 2), 1, 2, 1, 8);
            Check.due("three", between(4, 2).works(1, 2, 1, -1), -1);
            Check.due("three", between(4, 2).works(1, 2, 1, 0), -1);
            works(between(1, 0), 1, 1, 1, 8);
            works(between(1, 1), 1, 1, 1, 8, 10);
            Check.due("three", between(2, 1).works(1, 1, 1, -1), -1);
        });
        Edges.edge("set now, 9 in a CELL at most", () -> {
            BentRiver x = between(9, 1);
            for (int i = 0; i < 7; i++) {
                x.plant(1, 0);
            }
            works(x, 1, 2, 1, 8, 8);
            x.plant(1, 0);
            works(x, 1, 2, 1, 8);
            BentRiver y = between(11, 1);
            for (int i = 0; i < 8; i++) {
                y.plant(1, 0);
            }
            Check.due("a tenth", y.works(1, 2, 1, -1), -1);
            y.plant(1, 0);
            Check.due("a tenth", y.works(1, 2, 1, -1), -1);
            // one fits into each of two CELLS, of which each has eight
            BentRiver eight = between(9, 9);
            for (int i = 0; i < 8; i++) {
                eight.plant(1, 0);
                eight.plant(1, 2);
            }
            works(eight, 1, 1, 1, 8, 10);
            eight.plant(1, 2);
            works(eight, 1, 1, 1, 8);
            // one in each of two CELLS would do, but one of them has nine
            BentRiver first = between(10, 1);
            BentRiver second = between(1, 10);
            for (int i = 0; i < 8; i++) {
                first.plant(1, 0);
                second.plant(1, 2);
            }
            Check.due("two more in one that has eight", first.works(1, 2, 1, -1), -1);
            Check.due("three", first.works(1, 1, 1, -1), -1);
            Check.due("three", second.works(1, 1, 1, -1), -1);
            first.plant(1, 0);
            second.plant(1, 2);
            Check.due("a tenth", first.works(1, 1, 1, -1), -1);
            Check.due("a tenth", second.works(1, 1, 1, -1), -1);
            BentRiver z = between(10, 0);
            for (int i = 0; i < 9; i++) {
                z.plant(1, 0);
            }
            works(z, 1, 0, 1);
            Check.due("a tenth", z.works(1, 1, 1, -1), -1);
        });
    }

    private static void likeWillows() {
        Edges.edge("of like ones the first (CELLS column by column, row by row; the second one no less)", () -> {
            // behind two seasons column 1 is in row 2, if it is not held itself, nor either one next to it
            String held = "valley 3 by 3 reach 1;eats row*(1-roots);";
            works(Check.river(held), 1, 2, 2);
            works(Check.river(held), 1, 1, 2, 1);
            works(Check.river(held.replace("1-roots", "2-roots")), 1, 1, 2, 1, 1);
            // the first CELL of all
            works(Check.river("valley 3 by 3 reach 7;runs 0 1;eats max(0,1-column)*(1-roots);"), 0, 2, 1, 0);
            works(Check.river("valley 3 by 3 reach 7;runs 0 1;eats max(0,1-column)*(1-roots);"), 0, 1, 1, 0, 2);
            // row by row: it is back in row 2 if held from going to row 0, or to row 1
            works(Check.river("valley 3 by 4 reach 7;runs 1 2;eats column*(2-column)*max(0,3-row)*(1-roots);"), 1, 2, 2, 8);
            // two in one CELL; two of which the second one is the later
            works(between(3, 2), 1, 2, 1, 8, 8);
            works(between(1, 1), 1, 1, 1, 8, 10);
        });
        Edges.edge("WORKS for a column, a row, n SEASONS AHEAD (1 .. 20): how many (k NONE), the k-th: "
            + "8 times its column and its row.", () -> {
            BentRiver x = Check.river("valley 10 by 8 reach 7;runs 9 6;eats max(0,column-8)*(row-5-roots*9);");
            works(x, 9, 7, 1);
            works(x, 9, 6, 1, 79);
            Check.due("n is 20", x.works(9, 6, 20, -1), 0);
            Check.due("n is 21", x.works(9, 6, 21, -1), -1);
            Check.due("n is 0", x.works(9, 6, 0, -1), -1);
            Check.due("n is -1", x.works(9, 6, -1, -1), -1);
        });
    }

    private static void worksOfNone() {
        Edges.edge("NONE when 2 are not enough, n can't be, or there are none such.", () -> {
            BentRiver x = between(1, 1);
            Check.due("far away", x.works(0, 2, 1, -1), -1);
            Check.due("no column", x.works(3, 0, 1, -1), -1);
            Check.due("no column", x.works(-1, 0, 1, -1), -1);
            Check.due("no row", x.works(0, 3, 1, -1), -1);
            Check.due("no row", x.works(0, -1, 1, -1), -1);
            Check.due("k is 0 of none", x.works(1, 0, 1, 0), -1);
            Check.due("k is 2 of two", x.works(1, 1, 1, 2), -1);
            Check.due("k is -2", x.works(1, 1, 1, -2), -1);
            Check.due("k is most", x.works(1, 1, 1, Integer.MAX_VALUE), -1);
            Check.due("without a valley", new BentRiver().works(0, 0, 1, -1), -1);
            Check.due("to SEASON 999", Edges.inSeason(979, STILL).works(0, 0, 20, -1), 0);
            Check.due("beyond", Edges.inSeason(980, STILL).works(0, 0, 20, -1), -1);
            Check.due("all stays", x.has(7) + x.has(10), 0);
        });
    }

    private static void rest() {
        String a = "lord a from 1 to 1 pays 5 joy 9 purse 99;";
        Edges.edge("of which none, in it or not, would have more if he alone did otherwise", () -> {
            Check.due("he would have 4", Check.river(BY_OFFER + a).rest(1), 1);
            Check.due("as much is not more", Check.river(BY_OFFER + a.replace("joy 9", "joy 5")).rest(1), 0);
            Check.due("1 is more", Check.river(BY_OFFER + a.replace("joy 9", "joy 6")).rest(1), 1);
            Check.due("one in it would have more without", Check.river("valley 3 by 2 reach 1;bend all;" + a).rest(1), 0);
            Check.due("without lords", Check.river(STILL).rest(1), 0);
        });
        Edges.edge("of the fewest, of like ones the least bits", () -> {
            Check.due("either of two", Check.river(BY_OFFER + a + a.replace("lord a", "lord b")).rest(1), 1);
            Check.due("the second alone", Check.river(BY_OFFER + a.replace("joy 9", "joy 4")
                + a.replace("lord a", "lord b")).rest(1), 2);
            // two are needed of a and b, one of c: three bits against two
            String both = BY_OFFER.replace("eats pay", "eats (pay-9)");
            Check.due("the fewest", Check.river(both + "lord a from 1 to 1 pays 5 joy 20 purse 99;"
                + "lord b from 1 to 1 pays 5 joy 20 purse 99;lord c from 1 to 1 pays 10 joy 20 purse 99;").rest(1), 4);
            Check.due("the last of five", Check.river(BY_OFFER + "lord a from 0 to 0 pays 1 joy 1 purse 9;"
                + "lord b from 0 to 0 pays 1 joy 1 purse 9;lord c from 0 to 0 pays 1 joy 1 purse 9;"
                + "lord d from 2 to 2 pays 1 joy 1 purse 9;lord e from 1 to 1 pays 5 joy 9 purse 99;").rest(1), 16);
        });
        Edges.edge("At REST, n SEASONS AHEAD (1 .. 30), as bits; NONE when no set is, n can't be, or without a valley.", () -> {
            BentRiver x = Check.river(STILL);
            Check.due("n is 0", x.rest(0), -1);
            Check.due("n is 30", x.rest(30), 0);
            Check.due("n is 31", x.rest(31), -1);
            Check.due("n is -1", x.rest(-1), -1);
            Check.due("to SEASON 999", Edges.inSeason(969, STILL).rest(30), 0);
            Check.due("beyond", Edges.inSeason(970, STILL).rest(30), -1);
            Check.due("without a valley", new BentRiver().rest(1), -1);
            // column 1 goes if just one of two offers; a has joy if it stays, b if it goes
            Check.due("no set is", Check.river("valley 4 by 4 reach 7;runs 1 2;"
                + "eats max(0,1-(column-1)*(column-1))*pay*(3-pay);bend column=0 and behind=2 or column=2 and before=1;"
                + "lord a from 0 to 1 pays 1 joy 9 purse 99;lord b from 1 to 2 pays 2 joy 9 purse 99;").rest(1), -1);
            // joy of 30 seasons is weighed against what is paid in them, of 29 it is less
            String slow = "valley 3 by 3 reach 7;runs 0 2;runs 1 1;runs 2 2;eats pay*column*(2-column)*max(0,1-season);"
                + "bend turn>3 and season<1 or column=1 and turn>3 and season=29;lord a from 1 to 1 pays 5 joy 5 purse 5;";
            Check.due("29", Check.river(slow).rest(29), 0);
            Check.due("30", Check.river(slow).rest(30), 1);
        });
        Edges.edge("a set of LORDS that OFFER now (the others don't)", () -> {
            BentRiver x = Check.river(BY_OFFER + a);
            x.offer(0, 0);
            Check.due("whoever OFFERS now", x.rest(1), 1);
            Check.due("all stays", x.lord(0, 5), 0);
        });
    }

    private static void barge() {
        Edges.edge("A BARGE takes 1 for each column, and as many more as rows lie between it and the one ahead.", () -> {
            Check.due("the least", Check.river("valley 3 by 2 reach 1;").barge(), 3);
            Check.due("the most", Check.river("valley 10 by 8 reach 7;runs 1 7;runs 3 7;runs 5 7;runs 7 7;runs 9 7;").barge(),
                10 + 9 * 7);
            Check.due("the first one", Check.river("valley 3 by 8 reach 7;runs 0 7;").barge(), 10);
            Check.due("the last one", Check.river("valley 3 by 8 reach 7;runs 2 7;").barge(), 10);
        });
        Edges.edge("How long a BARGE takes; NONE without a valley.", () -> {
            Check.due("without a valley", new BentRiver().barge(), -1);
            BentRiver x = new BentRiver();
            Check.valley(x, "valley 3 by 2");
            Check.due("with a FAULT", x.barge(), -1);
        });
    }

    private static void cuts() {
        Edges.edge("The CUT is the column by whose cutting it takes least, if less than now; of like ones the first.", () -> {
            Check.due("least", Check.river("valley 5 by 8 reach 7;runs 1 2;runs 3 3;").cuts(), 3);
            Check.due("of like ones", Check.river("valley 5 by 8 reach 7;runs 1 3;runs 3 3;").cuts(), 1);
            Check.due("not less", Check.river("valley 4 by 8 reach 7;runs 2 7;runs 3 7;").cuts(), -1);
            Check.due("less by 2", Check.river("valley 3 by 8 reach 7;runs 1 1;").cuts(), 1);
            Check.due("the last but one", Check.river("valley 10 by 8 reach 7;runs 8 1;").cuts(), 8);
            Check.due("not the last", Check.river("valley 3 by 8 reach 7;runs 2 7;").cuts(), -1);
            Check.due("not the first", Check.river("valley 3 by 8 reach 7;runs 0 7;").cuts(), -1);
        });
        Edges.edge("The CUT; NONE when none is better, or without a valley.", () -> {
            Check.due("none is better", Check.river(STILL).cuts(), -1);
            Check.due("without a valley", new BentRiver().cuts(), -1);
        });
    }

    private static void dream(String text, int... due) {
        BentRiver x = Check.river(text);
        Check.due("dream(NONE) of " + text, x.dream(-1), due[0]);
        for (int c = 0; c + 1 < due.length; c++) {
            Check.due("dream(" + c + ") of " + text, x.dream(c), due[c + 1]);
        }
    }

    private static void courses() {
        String lord = "lord a from 0 to 2 pays 1 joy 0 purse 9;";
        Edges.edge("A COURSE is a row for each column, no two next to one another farther apart than reach", () -> {
            // a turn of 4 needs two rows between, on both sides
            dream("valley 3 by 3 reach 2;bend turn=4;" + lord, 1, 0, 2, 0);
            dream("valley 3 by 3 reach 1;bend turn=4;" + lord, 0, 0, 0, 0);
            dream("valley 3 by 3 reach 1;bend turn=2;" + lord, 1, 0, 1, 0);
            dream("valley 3 by 8 reach 7;bend turn=14;" + lord, 1, 0, 7, 0);
            dream("valley 3 by 8 reach 6;bend turn=14;" + lord, 0, 0, 0, 0);
            // where the river runs now does not matter
            dream("valley 3 by 3 reach 1;runs 1 2;bend turn=4;" + lord, 0, 0, 0, 0);
        });
        Edges.edge("of like ones the first, column by column", () -> {
            dream("valley 3 by 3 reach 2;bend column=2 and row>0;" + lord, 1, 0, 0, 1);
            dream("valley 3 by 3 reach 1;bend column=2 and row=2;" + lord, 1, 0, 1, 2);
            dream("valley 3 by 3 reach 1;bend column=0 and row>0;" + lord, 1, 1, 0, 0);
            dream("valley 3 by 3 reach 1;bend not all;" + lord, 0, 0, 0, 0);
            dream("valley 3 by 8 reach 7;bend column=0 and row=7;" + lord, 1, 7, 0, 0);
            // the rows before and behind are the course's own, the row itself in the first and the last column
            dream("valley 4 by 4 reach 3;bend column=0 and before=2 or column=1 and before=2 and behind=0 "
                + "or column=2 and before=1 and behind=3 and row=0 or column=3 and behind=3 and before=0;"
                + "lord a from 0 to 3 pays 1 joy 0 purse 9;", 4, 2, 1, 0, 3);
            dream("valley 4 by 4 reach 3;bend column=0 and row=1 or column=1 and row=2 and behind=before or column=2 and "
                + "behind=before;lord a from 0 to 3 pays 1 joy 0 purse 9;", 3, 1, 2, 1, 2);
            BentRiver x = Check.river("valley 3 by 3 reach 1;bend row=2;" + lord);
            Check.due("in row 2", x.dream(-1), 3);
            Check.valley(x, "valley 3 by 2 reach 1;bend row=2;" + lord);
            Check.due("there is no row 2", x.dream(-1), 0);
            Check.due("the first", x.dream(0), 0);
            Check.valley(x, "valley 3 by 3 reach 1;bend turn=4;" + lord);
            Check.due("not by what was found ahead", x.dream(-1), 0);
        });
    }

    private static void dreams() {
        Edges.edge("the LORDS' offers of now for all BENDS are most together (without purses)", () -> {
            // each has enough for one, and pays for three
            dream("valley 3 by 2 reach 1;bend all;lord a from 0 to 2 pays 9 joy 0 purse 9;", 27, 0, 0, 0);
            dream("valley 10 by 8 reach 7;bend all;lord a from 0 to 9 pays 99 joy 0 purse 99;"
                + "lord b from 0 to 9 pays 99 joy 0 purse 99;lord c from 0 to 9 pays 99 joy 0 purse 99;"
                + "lord d from 0 to 9 pays 99 joy 0 purse 99;lord e from 0 to 9 pays 99 joy 0 purse 99;",
                4950, 0, 0, 0, 0, 0, 0, 0, 0, 0, 0);
            BentRiver x = Check.river("valley 3 by 2 reach 1;bend all;lord a from 0 to 2 pays 9 joy 0 purse 9;");
            x.offer(0, 0);
            Check.due("offers of now", x.dream(-1), 0);
            Check.due("without lords", Check.river("valley 3 by 2 reach 1;bend all;").dream(-1), 0);
        });
        Edges.edge("The DREAM: what it pays (column NONE), the row of a column. NONE when there is none such, or without a valley.",
            () -> {
                BentRiver x = Check.river(STILL);
                Check.due("what it pays", x.dream(-1), 0);
                Check.due("the last", x.dream(2), 0);
                Check.due("none such", x.dream(3), -1);
                Check.due("none such", x.dream(-2), -1);
                Check.due("none such", x.dream(Integer.MAX_VALUE), -1);
                Check.due("none such", x.dream(Integer.MIN_VALUE), -1);
                Check.due("without a valley", new BentRiver().dream(-1), -1);
                Check.due("without a valley", new BentRiver().dream(0), -1);
            });
    }

    private static void see() {
        Edges.edge("1 to 16 rows of three bytes: how many rows; NONE, refused (1), all staying, when it is none such", () -> {
            BentRiver x = Check.river("valley 4 by 3 reach 2;");
            Check.due("one", Edges.see(x, 1, 2, 1), 1);
            for (int bytes : new int[] {0, 1, 2, 4, 5, 47, 49, 51}) {
                Edges.refused(x, 1, bytes + " bytes", () -> Check.due("see", Edges.see(x, new int[bytes]), -1));
            }
            Check.due("as it was", x.has(9), 1);
            Check.due("sixteen", Edges.see(x, new int[48]), 16);
            Check.due("sixteen", x.has(9), 16);
            Check.due("two, in their stead", Edges.see(x, new int[6]), 2);
            Check.due("two", x.has(9), 2);
        });
        Edges.edge("SEEN are rows of SEASONS AHEAD (0 .. 30; 0 is now), column, row where it runs", () -> {
            BentRiver x = Check.river("valley 4 by 3 reach 2;");
            Check.due("the least", Edges.see(x, 0, 0, 0), 1);
            Check.due("the most", Edges.see(x, 30, 3, 2), 1);
            int[][] wrong = {{31, 0, 0}, {0, 4, 0}, {0, 0, 3}, {128, 0, 0}, {0, 128, 0}, {0, 0, 128}, {255, 0, 0},
                {0, 255, 0}, {0, 0, 255}, {0, 0, 0, 31, 0, 0}, {0, 0, 0, 0, 4, 0}, {0, 0, 0, 0, 0, 3}};
            for (int[] bytes : wrong) {
                Edges.refused(x, 1, java.util.Arrays.toString(bytes), () -> Check.due("see", Edges.see(x, bytes), -1));
            }
            BentRiver y = Check.river(DOWN);
            Edges.see(y, 0, 1, 2);
            Check.due("0 is now", y.ran(1), 1 << 2);
            Check.due("column 3 of 3", Edges.see(y, 0, 3, 0), -1);
            Check.due("row 6 of 6", Edges.see(y, 0, 0, 6), -1);
        });
        Edges.edge("all staying, when it is none such, or without a valley.", () -> {
            BentRiver x = new BentRiver();
            Edges.refused(x, 1, "see", () -> Check.due("see", Edges.see(x, 0, 0, 0), -1));
            BentRiver y = Check.river(DOWN);
            Edges.see(y, 1, 1, 2);
            Edges.see(y, 1, 1, 9);
            Check.due("what is SEEN stays", y.ran(1), 1 << 3);
        });
        Edges.edge("The tape (it goes) tells what is SEEN", () -> {
            BentRiver x = Check.river(DOWN);
            Edges.see(x, 1, 1, 2);
            Check.due("it went", x.end(1), false);
            Edges.see(x, 1, 1, 9);
            Check.due("it went", x.end(1), false);
        });
    }

    private static void ran() {
        Edges.edge("Rows of a column by what is SEEN (all, if nothing is), as bits", () -> {
            Check.due("all of two", Check.river("valley 3 by 2 reach 1;").ran(0), 3);
            Check.due("all of eight", Check.river("valley 3 by 8 reach 1;").ran(2), 255);
            BentRiver x = Check.river(DOWN);
            Edges.see(x, 1, 1, 4);
            Check.due("from 5", x.ran(1), 1 << 5);
            Edges.see(x, 30, 1, 0, 30, 1, 0);
            Check.due("behind 30", x.ran(1), 1 << 0 | 1 << 2 | 1 << 4);
            Edges.see(x, 0, 1, 5, 1, 1, 3);
            Check.due("none", x.ran(1), 0);
            Edges.see(x, 0, 0, 0);
            Check.due("of another column", x.ran(1), 63);
            Edges.see(x, 0, 0, 1);
            Check.due("of another column", x.ran(1), 0);
            // sixteen, of which the last one alone is not so
            int[] sixteen = new int[48];
            sixteen[45] = 1;
            sixteen[46] = 1;
            sixteen[47] = 4;
            Edges.see(x, sixteen);
            Check.due("all sixteen", x.ran(1), 1 << 5);
            Check.due("all sixteen", x.ran(0), 1);
        });
        Edges.edge("SEASONS beyond 999 are by none. NONE when there is none such.", () -> {
            BentRiver x = Edges.inSeason(970, STILL);
            Edges.see(x, 29, 0, 0);
            Check.due("SEASON 999", x.ran(0), 1);
            Edges.see(x, 30, 0, 0);
            Check.due("SEASON 1000", x.ran(0), 0);
            Edges.see(x, 0, 0, 0, 30, 0, 0);
            Check.due("one of them", x.ran(0), 0);
            Edges.see(x, 29, 0, 0);
            Check.due("it is SEEN no more", x.ran(0), 1);
            BentRiver y = Edges.inSeason(999, STILL);
            Check.due("nothing is SEEN", y.ran(0), 3);
            Edges.see(y, 0, 0, 1);
            Check.due("now", y.ran(0), 2);
            Edges.see(y, 1, 0, 0);
            Check.due("beyond", y.ran(0), 0);
            Check.due("none such", y.ran(3), -1);
            Check.due("none such", y.ran(-1), -1);
            Check.due("without a valley", new BentRiver().ran(0), -1);
        });
    }

    /** 1 in a told SEASON, 0 in all others. */
    private static String in(int season) {
        return "max(0,1-(season-" + season + ")*(season-" + season + "))";
    }

    /** Column 2: rows 1 and 2 are both in row 1 behind the one SEASON; only as the other one passes they part. */
    private static String parting(int meet, int part) {
        return "valley 4 by 3 reach 7;eats max(0,1-(column-1)*(column-1))*" + in(meet) + "*max(0,turn-1)"
            + "+max(0,1-(column-2)*(column-2))*(" + in(meet) + "*max(0,turn-2)+" + in(part) + "*row*max(0,turn-1));";
    }

    private static void telling() {
        Edges.edge("TELLING is the SEASON AHEAD (1 .. 30) by whose row in that column, whatever it is, "
            + "the most of these left are fewest", () -> {
            BentRiver x = Check.river(parting(0, 29));
            Check.due("30", x.tells(2, 0), 30);
            Check.due("one left", x.tells(2, 1), 1);
            BentRiver y = Check.river(parting(0, 30));
            Check.due("31 is too late", y.tells(2, 0), 1);
            Check.due("two left", y.tells(2, 1), 2);
            // rows 0 and 2 meet in row 1, row 1 goes to row 0: two left; by row 0 alone, one
            BentRiver down = Check.river("valley 3 by 3 reach 7;eats column*(2-column)*(3-row);");
            Check.due("left", down.tells(1, 1), 2);
            Edges.see(down, 0, 1, 0);
            Check.due("left", down.tells(1, 1), 1);
            BentRiver eight = Check.river(DOWN.replace("by 6", "by 8"));
            Edges.see(eight, 1, 1, 1);
            Check.due("rows 0 and 2", eight.ran(1), 5);
            Check.due("are never told apart", eight.tells(1, 0), 1);
            Check.due("left", eight.tells(1, 1), 2);
            BentRiver z = Check.river(parting(0, 1));
            Check.due("2", z.tells(2, 0), 2);
            Edges.see(z, 0, 2, 2);
            Check.due("of one the first", z.tells(2, 0), 1);
            Check.due("one left", z.tells(2, 1), 1);
        });
        Edges.edge("are fewest; of like ones the first.", () -> {
            BentRiver x = Check.river(STILL);
            Check.due("told apart in each", x.tells(0, 0), 1);
            Check.due("one left", x.tells(0, 1), 1);
        });
        Edges.edge("NONE without a row, when no SEASON comes, there is none such, or for others.", () -> {
            BentRiver x = Check.river(STILL);
            for (int what : new int[] {-1, 2, Integer.MAX_VALUE}) {
                Check.due("others", x.tells(0, what), -1);
            }
            Check.due("none such", x.tells(3, 0), -1);
            Check.due("none such", x.tells(-1, 0), -1);
            Edges.see(x, 0, 0, 0, 0, 0, 1);
            Check.due("without a row", x.tells(0, 0), -1);
            Check.due("without a row", x.tells(0, 1), -1);
            Check.due("without a valley", new BentRiver().tells(0, 0), -1);
            Check.due("one comes", Edges.inSeason(998, STILL).tells(0, 0), 1);
            Check.due("no SEASON comes", Edges.inSeason(999, STILL).tells(0, 0), -1);
            Check.due("no SEASON comes", Edges.inSeason(999, STILL).tells(0, 1), -1);
        });
        Edges.edge("(60 at most, not beyond SEASON 999) ... TELLING is the SEASON AHEAD", () -> {
            BentRiver x = Edges.inSeason(997, parting(997, 998));
            Check.due("in the last", x.tells(2, 0), 2);
            Check.due("one left", x.tells(2, 1), 1);
            BentRiver y = Edges.inSeason(998, parting(998, 999));
            Check.due("one comes alone", y.tells(2, 0), 1);
            Check.due("two left", y.tells(2, 1), 2);
        });
    }
}
