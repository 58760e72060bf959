/** The boundary cases that Term II names: SEASONS, ACTS, DRAWS. */
public final class EdgesOfSeasonsTest {
    /** Column 1 alone eats, the more the higher its row, so that it goes to the row less by one if it may. */
    private static final String MIDDLE = "eats column*(2-column)*(9-row);";
    private static final String STILL = "valley 3 by 2 reach 1;eats 0;";

    public static void main(String[] args) {
        atFirst();
        offers();
        whereItMayGo();
        whereItGoes();
        timesAndSums();
        paying();
        lastSeason();
        acts();
        spates();
        draws();
        undoing();
        keeping();
        Check.finish();
    }

    private static void atFirst() {
        Edges.edge("(also farther apart than reach, as told)", () -> {
            BentRiver x = Check.river("valley 3 by 8 reach 1;runs 1 7;eats 0;");
            Edges.rows("as told", x, 0, 7, 0);
            x.seasons(1);
            Edges.rows("as told", x, 0, 7, 0);
        });
        Edges.edge("It is SEASON 0 at first, its FUND is 0, each LORD OFFERS what he pays", () -> {
            BentRiver x = Check.river(STILL + "bend all;lord a from 0 to 2 pays 3 joy 0 purse 9;"
                + "lord b from 0 to 0 pays 3 joy 0 purse 0;");
            Check.due("SEASON", x.has(3), 0);
            Check.due("FUND", x.has(4), 0);
            Check.due("OFFERS", x.lord(0, 5), 1);
            Check.due("OFFERS, without a purse too", x.lord(1, 5), 1);
            Check.due("what he pays", x.column(0, 3), 3);
        });
    }

    private static void offers() {
        Edges.edge("as long as his purse has as much; one who does not OFFER, or has less, offers 0", () -> {
            Check.due("as much", Check.river(STILL + "lord a from 0 to 2 pays 9 joy 0 purse 9;").column(0, 3), 9);
            Check.due("less", Check.river(STILL + "lord a from 0 to 2 pays 9 joy 0 purse 8;").column(0, 3), 0);
            BentRiver x = Check.river(STILL + "lord a from 0 to 2 pays 9 joy 0 purse 99;");
            x.offer(0, 0);
            Check.due("does not OFFER", x.column(0, 3), 0);
            x.offer(0, 1);
            Check.due("OFFERS again", x.column(0, 3), 9);
        });
    }

    private static void goes(String text, int... due) {
        BentRiver x = Check.river(text);
        x.seasons(1);
        Edges.rows(text, x, due);
    }

    private static void whereItMayGo() {
        Edges.edge("it may go to the CELL of the row less by one, or of the row more by one, if there is such a row", () -> {
            String only = "eats column*(2-column);";
            goes("valley 3 by 2 reach 7;runs 1 0;" + only, 0, 1, 0);
            goes("valley 3 by 2 reach 7;runs 1 1;" + only, 0, 0, 0);
            goes("valley 3 by 8 reach 7;runs 1 7;eats column*(2-column)*row;", 0, 6, 0);
            goes("valley 3 by 8 reach 7;runs 1 0;eats column*(2-column)*(9-row);", 0, 1, 0);
            goes("valley 3 by 8 reach 7;runs 1 6;eats column*(2-column)*row;", 0, 7, 0);
        });
        Edges.edge("it is then no farther than reach rows from where it runs in the columns next to it", () -> {
            // to row 3 from row 4: the one before, behind in row 1 is two away, in row 0 three
            goes("valley 3 by 8 reach 2;runs 0 1;runs 1 4;runs 2 3;" + MIDDLE, 1, 3, 3);
            goes("valley 3 by 8 reach 2;runs 0 0;runs 1 4;runs 2 3;" + MIDDLE, 0, 4, 3);
            goes("valley 3 by 8 reach 2;runs 0 3;runs 1 4;runs 2 1;" + MIDDLE, 3, 3, 1);
            goes("valley 3 by 8 reach 2;runs 0 3;runs 1 4;runs 2 0;" + MIDDLE, 3, 4, 0);
            // to row 3 from row 2, the row less being too far away
            goes("valley 3 by 8 reach 2;runs 0 4;runs 1 2;runs 2 5;" + MIDDLE, 4, 3, 5);
            goes("valley 3 by 8 reach 7;runs 0 7;runs 1 1;runs 2 7;" + MIDDLE, 7, 0, 7);
        });
        Edges.edge("from where it runs in the columns next to it;", () -> {
            // the first column has one next to it, and so has the last one
            String first = "valley 3 by 8 reach 1;eats max(0,1-column)*(9-row);runs 0 4;";
            goes(first + "runs 1 4;runs 2 0;", 3, 4, 0);
            goes(first + "runs 1 2;runs 2 0;", 3, 2, 0);
            goes(first + "runs 1 6;runs 2 0;", 5, 6, 0);
            goes(first + "runs 1 7;runs 2 4;", 4, 7, 4);
            String last = "valley 3 by 8 reach 1;eats max(0,column-1)*(9-row);runs 2 4;";
            goes(last + "runs 1 4;runs 0 0;", 0, 4, 3);
            goes(last + "runs 1 2;runs 0 0;", 0, 2, 3);
            goes(last + "runs 1 6;runs 0 0;", 0, 6, 5);
            goes(last + "runs 1 7;runs 0 4;", 4, 7, 4);
        });
    }

    private static void whereItGoes() {
        String head = "valley 3 by 3 reach 7;runs 1 1;";
        Edges.edge("FIRST column by column, from the first on, all by what is so then", () -> {
            // each may go only when the one before it has gone
            goes("valley 3 by 4 reach 1;runs 0 1;runs 1 2;runs 2 3;eats row-1;", 2, 3, 2);
            goes("valley 3 by 4 reach 1;runs 0 1;runs 1 1;runs 2 1;eats row-1;", 2, 2, 2);
        });
        Edges.edge("to the one with the greatest SUM of eats, if that is above 0", () -> {
            goes(head + "eats column*(2-column)*(row-1);", 0, 2, 0);
            goes(head + "eats column*(2-column)*(1-row);", 0, 0, 0);
            goes(head + "eats 0;", 0, 1, 0);
            goes(head + "eats 0-1;", 0, 1, 0);
            goes(head + "eats column*(2-column)*(row+1);", 0, 2, 0);
            goes(head + "eats column*(2-column)*(row+1)-3;", 0, 1, 0);
            goes(head + "eats column*(2-column)*(row+1)-2;", 0, 2, 0);
        });
        Edges.edge("of like ones to the less one; else it stays", () -> {
            goes(head + "eats column*(2-column);", 0, 0, 0);
            goes(head + "eats column*(2-column)*9999*9999*(row+1);", 0, 0, 0);
            goes(head + "eats 0*row;", 0, 1, 0);
        });
    }

    private static void timesAndSums() {
        Edges.edge("THEN each CELL in which it runs has been so once more (99 at most)", () -> {
            BentRiver x = Check.river("valley 3 by 3 reach 7;runs 1 1;eats column*(2-column)*(1-season);");
            x.seasons(1);
            Check.due("where it went", x.cell(1, 0, 2), 1);
            Check.due("where it had been", x.cell(1, 1, 2), 0);
            Check.due("where it stays", x.cell(2, 0, 2), 1);
            x.seasons(97);
            Check.due("98", x.cell(2, 0, 2), 98);
            x.seasons(1);
            Check.due("99", x.cell(2, 0, 2), 99);
            x.seasons(1);
            Check.due("at most", x.cell(2, 0, 2), 99);
            x.seasons(100);
            Check.due("at most", x.cell(1, 0, 2), 99);
        });
    }

    private static BentRiver withFund(int fund, String text) {
        BentRiver x = Check.river(text);
        int[] bytes = Check.image(x);
        bytes[2] = fund >> 16;
        bytes[3] = fund >> 8 & 255;
        bytes[4] = fund & 255;
        Check.due("on() with a FUND of " + fund, Check.on(x, Check.sealed(bytes)), true);
        return x;
    }

    private static void paying() {
        Edges.edge("THEN column by column, where the TEST of bend holds (a BEND), each LORD of it, by numbers, "
            + "pays what he offers then: his purse is less", () -> {
            // 2 and 2, and 1 is less than 2
            BentRiver x = Check.river(STILL + "bend all;lord a from 0 to 2 pays 2 joy 0 purse 5;");
            Check.due("paid", x.seasons(1), 4);
            Check.due("purse", x.lord(0, 4), 1);
            Check.due("offers nothing", x.column(0, 3), 0);
            Check.due("paid", x.seasons(1), 0);
            BentRiver y = Check.river(STILL + "bend column=2;lord a from 0 to 1 pays 2 joy 0 purse 5;"
                + "lord b from 2 to 2 pays 5 joy 0 purse 5;");
            Check.due("his columns alone", y.seasons(1), 5);
            Check.due("purse", y.lord(0, 4), 5);
            Check.due("purse", y.lord(1, 4), 0);
            BentRiver z = Check.river(STILL + "bend not all;lord a from 0 to 2 pays 2 joy 0 purse 5;");
            Check.due("without a BEND", z.seasons(100), 0);
        });
        Edges.edge("the FUND more by it (999999 at most)", () -> {
            String text = STILL + "bend column=0;lord a from 0 to 0 pays 1 joy 0 purse 9;";
            BentRiver x = withFund(999998, text);
            Check.due("paid", x.seasons(1), 1);
            Check.due("999999", x.has(4), 999999);
            Check.due("paid in full", x.seasons(1), 1);
            Check.due("at most", x.has(4), 999999);
            Check.due("his purse is less", x.lord(0, 4), 7);
            Check.due("ahead too", x.sums(3, 1), 999999);
            BentRiver y = withFund(999990, STILL + "bend all;lord a from 0 to 2 pays 99 joy 0 purse 999;");
            Check.due("beyond", y.sums(1, 1), 999999);
        });
    }

    private static void lastSeason() {
        Edges.edge("The SEASON is one more (999 at most).", () -> {
            BentRiver x = Edges.inSeason(998, STILL);
            Check.due("one comes", x.seasons(1), 0);
            Check.due("SEASON", x.has(3), 999);
            Check.due("none comes", x.seasons(1), -1);
            Check.due("none comes", x.chance(1), -1);
            Check.due("SEASON", x.has(3), 999);
            BentRiver y = Edges.inSeason(998, STILL);
            Check.due("two don't come", y.seasons(2), -1);
            Check.due("none of them", y.has(3), 998);
        });
    }

    private static void acts() {
        Edges.edge("a willow is set in a CELL (9 at most)", () -> {
            BentRiver x = Check.river(STILL + "willow 2 1;".repeat(8));
            Check.due("the 9th", x.plant(2, 1), 9);
            Check.due("the 10th", x.plant(2, 1), -1);
            Check.due("another CELL", x.plant(2, 0), 1);
        });
        Edges.edge("the river runs in it half way (the rows before and behind together, halved, rounded down)", () -> {
            halfWay(0, 0, 1, 0);
            halfWay(0, 1, 7, 0);
            halfWay(1, 0, 7, 0);
            halfWay(7, 6, 0, 6);
            halfWay(7, 7, 0, 7);
            halfWay(0, 7, 7, 3);
            halfWay(2, 4, 0, 3);
            // reach or not
            BentRiver x = Check.river("valley 4 by 8 reach 1;runs 0 7;runs 1 7;runs 2 6;runs 3 7;");
            Check.due("cut", x.cut(1), true);
            Check.due("half way", x.column(1, 0), 6);
        });
        Edges.edge("not in the first, the last column, if it does not so already", () -> {
            BentRiver x = Check.river("valley 4 by 8 reach 7;runs 0 7;runs 1 3;runs 3 7;");
            Check.due("the first", x.cut(0), false);
            Check.due("the last", x.cut(3), false);
            Check.due("so already", x.cut(1), false);
            Check.due("the last but one", x.cut(2), true);
            Check.due("half way", x.column(2, 0), 5);
            Check.due("so already", x.cut(2), false);
            Check.due("no longer", x.cut(1), true);
        });
    }

    private static void halfWay(int before, int behind, int row, int due) {
        BentRiver x = Check.river("valley 3 by 8 reach 7;runs 0 " + before + ";runs 1 " + row + ";runs 2 " + behind + ";");
        Check.due("cut between " + before + " and " + behind, x.cut(1), true);
        Edges.rows("cut between " + before + " and " + behind, x, before, due, behind);
    }

    private static int drawn = 0;

    private static int draw(int m) {
        drawn = (int) ((1103515245L * drawn + 12345L) % (1L << 31));
        return drawn / 64 % m;
    }

    private static int drawBy(int seed, int m) {
        drawn = seed;
        return draw(m);
    }

    private static void spates() {
        Edges.edge("ahead of each a DRAW of 100: below spate", () -> {
            for (int seed = 0; seed < 40; seed++) {
                int first = drawBy(seed, 100);
                Check.due("a DRAW of just spate, " + first, spatesOf(1, seed, first), 0);
                Check.due("a DRAW below spate, " + first, spatesOf(1, seed, first + 1), 1);
            }
            Check.due("0 never", spatesOf(100, 5, 0), 0);
            Check.due("100 always", spatesOf(100, 5, 100), 100);
        });
        Edges.edge("a DRAW of the columns, a DRAW of 2: the river goes there to the row less (0), or more (1) by one", () -> {
            boolean[] seen = new boolean[20];
            for (int seed = 0; seed < 300; seed++) {
                drawBy(seed, 100);
                int column = draw(10);
                int side = draw(2);
                seen[2 * column + side] = true;
                int[] due = {3, 3, 3, 3, 3, 3, 3, 3, 3, 3};
                due[column] += side == 0 ? -1 : 1;
                StringBuilder text = new StringBuilder("valley 10 by 8 reach 1;eats 0;spate 100;");
                for (int c = 0; c < 10; c++) {
                    text.append("runs ").append(c).append(" 3;");
                }
                Edges.rows("seed " + seed, spate(seed, text.toString()), due);
            }
            for (int i = 0; i < 20; i++) {
                Check.due("each column, each side, " + i, seen[i], true);
            }
        });
        Edges.edge("by one, if there is one (reach or not)", () -> {
            for (int seed = 0; seed < 60; seed++) {
                drawBy(seed, 100);
                int column = draw(3);
                int side = draw(2);
                int[] low = {0, 0, 0};
                int[] high = {1, 1, 1};
                low[column] += side;
                high[column] += side - 1;
                Edges.rows("from row 0, seed " + seed, spate(seed, "valley 3 by 2 reach 1;eats 0;spate 100;"), low);
                Edges.rows("from row 1, seed " + seed,
                    spate(seed, "valley 3 by 2 reach 1;runs 0 1;runs 1 1;runs 2 1;eats 0;spate 100;"), high);
                int[] far = {0, 7, 0};
                far[column] += column == 1 ? side - 1 : side;
                Edges.rows("farther than reach, seed " + seed,
                    spate(seed, "valley 3 by 8 reach 1;runs 1 7;eats 0;spate 100;"), far);
            }
        });
        Edges.edge("SEASONS by the seed: ahead of each", () -> {
            // the spate comes first: the SEASON then eats, counts and pays by where the river is
            for (int seed = 0; seed < 20; seed++) {
                drawBy(seed, 100);
                int column = draw(3);
                int side = draw(2);
                BentRiver x = spate(seed, "valley 3 by 2 reach 1;eats 0;bend row=1;spate 100;"
                    + "lord a from 0 to 2 pays 1 joy 0 purse 9;");
                Check.due("ran there", x.cell(column, side, 2), 1);
                Check.due("paid", x.has(4), side);
                Check.due("KEPT", x.kept(0, 1), side);
            }
        });
    }

    private static int spatesOf(int n, int seed, int spate) {
        BentRiver x = Check.river(STILL + "spate " + spate + ";");
        x.seed(seed);
        return x.chance(n);
    }

    private static BentRiver spate(int seed, String text) {
        BentRiver x = Check.river(text);
        x.seed(seed);
        Check.due("one spate", x.chance(1), 1);
        return x;
    }

    private static void draws() {
        Edges.edge("A DRAW of m: x (the seed) becomes (1103515245 x + 12345) mod 2 to the 31; floor(x / 64) mod m.", () -> {
            for (int seed : new int[] {0, 1, 2, 63, 64, 12345, 1 << 30, Integer.MAX_VALUE - 1, Integer.MAX_VALUE}) {
                BentRiver x = Check.river(STILL + "spate 50;");
                x.seed(seed);
                drawn = seed;
                for (int i = 0; i < 30; i++) {
                    int spates = draw(100) < 50 ? 1 : 0;
                    if (spates == 1) {
                        draw(3);
                        draw(2);
                    }
                    Check.due("spates by seed " + seed + ", " + i, x.chance(1), spates);
                }
            }
        });
        Edges.edge("(It is 1 at first.)", () -> {
            BentRiver x = Check.river(STILL + "spate 50;");
            BentRiver y = Check.river(STILL + "spate 50;");
            BentRiver z = Check.river(STILL + "spate 50;");
            y.seed(1);
            z.seed(0);
            x.chance(20);
            y.chance(20);
            z.chance(20);
            Check.due("as by 1", Check.told(x).equals(Check.told(y)), true);
            Check.due("not as by 0", Check.told(x).equals(Check.told(z)), false);
        });
    }

    private static void undoing() {
        Edges.edge("The last 20 can be undone.", () -> {
            BentRiver x = Check.river(STILL + "lord a from 0 to 0 pays 1 joy 0 purse 9;");
            for (int i = 1; i <= 21; i++) {
                x.seasons(1);
                Check.due("ACTS that can be", x.has(10), Math.min(i, 20));
            }
            for (int i = 20; i >= 1; i--) {
                Check.due("undone", x.undo(), true);
                Check.due("SEASON", x.has(3), i);
                Check.due("ACTS that can be", x.has(10), i - 1);
            }
            Check.due("the 21st can't be", x.undo(), false);
            Check.due("SEASON", x.has(3), 1);
            // each kind is one ACT
            x.plant(0, 0);
            x.offer(0, 0);
            x.seasons(5);
            x.chance(5);
            Check.due("four ACTS", x.has(10), 4);
        });
    }

    private static void keeping() {
        Edges.edge("KEPT is each SEASON: its number, how many BENDS, what was paid; the last 40 are told.", () -> {
            BentRiver x = Check.river(STILL + "bend column<season;lord a from 0 to 2 pays 1 joy 0 purse 999;");
            Check.due("none", x.has(8), 0);
            x.seasons(39);
            Check.due("39", x.has(8), 39);
            Check.due("the oldest", x.kept(0, 0), 0);
            x.chance(1);
            Check.due("40", x.has(8), 40);
            Check.due("the oldest", x.kept(0, 0), 0);
            x.seasons(1);
            Check.due("40 still", x.has(8), 40);
            Check.due("the oldest", x.kept(0, 0), 1);
            Check.due("its BENDS", x.kept(0, 1), 1);
            Check.due("what was paid", x.kept(0, 2), 1);
            Check.due("the newest", x.kept(39, 0), 40);
            Check.due("its BENDS", x.kept(39, 1), 3);
            Check.due("what was paid", x.kept(39, 2), 3);
            Check.due("no more", x.kept(40, 0), -1);
        });
    }
}
