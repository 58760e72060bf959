/** Promises 12 to 15, 27, 28, 30: SEASONS, told, ahead and by the seed. */
public final class SeasonsTest {
    public static void main(String[] args) {
        whereItGoes();
        byWhatIsSoThen();
        whatIsPaid();
        fundAtMost();
        keeping();
        keptAfterUndo();
        ahead();
        straight();
        limits();
        timesAtMost();
        draws();
        Check.finish();
    }

    private static void rows(String what, BentRiver x, int... due) {
        for (int c = 0; c < due.length; c++) {
            Check.due(what + ", row of " + c, x.column(c, 0), due[c]);
        }
    }

    private static void whereItGoes() {
        String head = "valley 3 by 5 reach 1;runs 0 2;runs 1 2;runs 2 2;";
        goes(head + "eats soil*(1-column)*column+row*column*0-1;", 2, 2, 2);
        // only the middle column has a SUM above 0, of like ones the less row
        goes(head + "eats column*(2-column);", 2, 1, 2);
        goes(head + "eats column*(2-column)*row;", 2, 3, 2);
        goes(head + "eats column*(2-column)*(row-3);", 2, 2, 2);
        // 0 is not above 0
        goes(head + "eats 0;", 2, 2, 2);
        // at the edges there is one row alone
        goes("valley 3 by 2 reach 7;runs 1 1;eats column*(2-column);", 0, 0, 0);
        goes("valley 3 by 2 reach 7;eats column*(2-column);", 0, 1, 0);
        // no farther than reach from the columns next to it, before and behind
        goes("valley 3 by 5 reach 1;runs 0 3;runs 1 2;runs 2 2;eats column*(2-column)*(5-row);", 3, 3, 2);
        goes("valley 3 by 5 reach 1;runs 0 2;runs 1 2;runs 2 3;eats column*(2-column)*(5-row);", 2, 3, 3);
        goes("valley 3 by 5 reach 1;runs 0 1;runs 1 2;runs 2 3;eats column*(2-column)*(5-row);", 1, 2, 3);
        goes("valley 3 by 5 reach 2;runs 0 1;runs 1 2;runs 2 3;eats column*(2-column)*(5-row);", 1, 1, 3);
        // told farther apart than reach it may still come nearer by no step that ends too far away
        goes("valley 3 by 5 reach 1;runs 0 0;runs 1 4;runs 2 0;eats column*(2-column);", 0, 4, 0);
        goes("valley 3 by 5 reach 3;runs 0 0;runs 1 4;runs 2 0;eats column*(2-column);", 0, 3, 0);
        // the first and the last column go too
        goes("valley 3 by 3 reach 7;runs 0 1;runs 1 1;runs 2 1;eats 1;", 0, 0, 0);
        goes("valley 3 by 3 reach 7;runs 0 1;runs 1 1;runs 2 1;eats row;", 2, 2, 2);
    }

    private static void goes(String text, int... due) {
        BentRiver x = Check.river(text);
        for (int c = 0; c < due.length; c++) {
            Check.due("later of " + c + " by " + text, x.later(c, 1), due[c]);
        }
        x.seasons(1);
        rows(text, x, due);
    }

    private static void byWhatIsSoThen() {
        // the second column goes only after the first has gone, the third only after the second
        goes("valley 4 by 4 reach 1;runs 0 1;runs 1 2;runs 2 2;runs 3 2;eats row;", 2, 3, 3, 3);
        // a turn that comes by the column before counts at once
        goes("valley 4 by 4 reach 7;runs 0 1;runs 1 1;runs 2 1;runs 3 1;eats turn*row*3-soil+max(0,1-column)*9;",
            0, 2, 2, 1);
    }

    private static void whatIsPaid() {
        BentRiver x = Check.river("valley 4 by 3 reach 2;bend column<3;eats 0;lord a from 0 to 1 pays 4 joy 0 purse 11;"
            + "lord b from 1 to 3 pays 3 joy 0 purse 9;lord c from 3 to 3 pays 1 joy 0 purse 5;");
        Check.due("column 1 offers", x.column(1, 3), 7);
        // a pays in columns 0, 1; b in 1, 2; c has no BEND
        Check.due("first season", x.seasons(1), 14);
        Check.due("purse a", x.lord(0, 4), 3);
        Check.due("purse b", x.lord(1, 4), 3);
        Check.due("purse c", x.lord(2, 4), 5);
        Check.due("fund", x.has(4), 14);
        Check.due("a has too little now", x.column(0, 3), 0);
        Check.due("he OFFERS all the same", x.lord(0, 5), 1);
        Check.due("second season", x.seasons(1), 3);
        Check.due("purse b", x.lord(1, 4), 0);
        Check.due("third season", x.seasons(1), 0);
        Check.due("fund", x.has(4), 17);
        // one who took it back pays nothing
        BentRiver y = Check.river("valley 3 by 2 reach 1;bend all;lord a from 0 to 2 pays 1 joy 0 purse 9;"
            + "lord b from 1 to 1 pays 5 joy 0 purse 99;");
        y.offer(0, 0);
        Check.due("two seasons", y.seasons(2), 10);
        y.offer(0, 1);
        Check.due("one more", y.seasons(1), 8);
        // a purse of as much as he pays is enough
        BentRiver z = Check.river("valley 3 by 2 reach 1;bend column=1;eats 0;lord a from 0 to 2 pays 9 joy 0 purse 9;");
        Check.due("enough", z.seasons(1), 9);
        // the offers that the eats see fall within a season only as it pays
        BentRiver w = Check.river("valley 3 by 3 reach 7;runs 1 1;eats pay*column*(2-column);bend column=1;"
            + "lord a from 1 to 1 pays 1 joy 0 purse 1;");
        Check.due("paid", w.seasons(2), 1);
        rows("went once", w, 0, 0, 0);
    }

    private static void fundAtMost() {
        BentRiver x = Check.river("valley 3 by 2 reach 1;bend all;lord a from 0 to 2 pays 99 joy 0 purse 999;");
        int[] bytes = Check.image(x);
        bytes[2] = 999900 >> 16;
        bytes[3] = 999900 >> 8 & 255;
        bytes[4] = 999900 & 255;
        Check.due("on", Check.on(x, Check.sealed(bytes)), true);
        Check.due("paid in full", x.seasons(1), 297);
        Check.due("the FUND at most", x.has(4), 999999);
        Check.due("the purse", x.lord(0, 4), 702);
        Check.due("kept in full", x.kept(0, 2), 297);
    }

    private static void keeping() {
        BentRiver x = Check.river("valley 3 by 2 reach 1;eats 0;bend column<season;"
            + "lord a from 0 to 2 pays 2 joy 0 purse 999;");
        Check.due("none", x.kept(0, 0), -1);
        Check.due("paid", x.seasons(5), 2 * (0 + 1 + 2 + 3 + 3));
        Check.due("told", x.has(8), 5);
        for (int k = 0; k < 5; k++) {
            Check.due("season", x.kept(k, 0), k);
            Check.due("bends", x.kept(k, 1), Math.min(k, 3));
            Check.due("paid", x.kept(k, 2), 2 * Math.min(k, 3));
        }
        Check.due("kept(5, 0)", x.kept(5, 0), -1);
        Check.due("kept(-1, 0)", x.kept(-1, 0), -1);
        Check.due("kept(0, 3)", x.kept(0, 3), -1);
        Check.due("kept(0, -1)", x.kept(0, -1), -1);
        x.seasons(35);
        Check.due("told", x.has(8), 40);
        Check.due("oldest", x.kept(0, 0), 0);
        x.chance(2);
        Check.due("told at most", x.has(8), 40);
        Check.due("oldest", x.kept(0, 0), 2);
        Check.due("oldest bends", x.kept(0, 1), 2);
        Check.due("newest", x.kept(39, 0), 41);
        Check.due("none", x.kept(40, 0), -1);
        // BENDS of now are by the season of now, the KEPT ones by theirs
        BentRiver y = Check.river("valley 3 by 2 reach 1;eats 0;bend season=0;");
        Check.due("bends now", y.has(5), 3);
        y.seasons(1);
        Check.due("bends now", y.has(5), 0);
        Check.due("bends kept", y.kept(0, 1), 3);
    }

    private static void keptAfterUndo() {
        BentRiver x = Check.river("valley 3 by 2 reach 1;eats 0;bend column<season;");
        x.seasons(45);
        x.seasons(10);
        Check.due("oldest", x.kept(0, 0), 15);
        x.undo();
        Check.due("oldest again", x.kept(0, 0), 5);
        Check.due("newest again", x.kept(39, 0), 44);
        x.undo();
        Check.due("none", x.has(8), 0);
        x.seasons(2);
        Check.due("new ones", x.kept(1, 1), 1);
    }

    private static void ahead() {
        BentRiver x = Check.river("valley 5 by 6 reach 2;runs 0 2;runs 1 4;runs 2 1;runs 3 5;runs 4 0;spate 100;"
            + "soil 2 3 1;soil 1 1 2;eats pay+turn*2-soil-ever;bend turn>1 and season<50;"
            + "lord a from 0 to 2 pays 2 joy 5 purse 50;lord b from 1 to 3 pays 3 joy 1 purse 99;");
        BentRiver y = Check.river("valley 5 by 6 reach 2;runs 0 2;runs 1 4;runs 2 1;runs 3 5;runs 4 0;spate 100;"
            + "soil 2 3 1;soil 1 1 2;eats pay+turn*2-soil-ever;bend turn>1 and season<50;"
            + "lord a from 0 to 2 pays 2 joy 5 purse 50;lord b from 1 to 3 pays 3 joy 1 purse 99;");
        for (int n = 0; n <= 60; n++) {
            for (int c = 0; c < 5; c++) {
                Check.due("later(" + c + ", " + n + ")", x.later(c, n), y.column(c, 0));
            }
            Check.due("sums(" + n + ", 0)", x.sums(n, 0), y.has(5));
            Check.due("sums(" + n + ", 1)", x.sums(n, 1), y.has(4));
            Check.due("sums(" + n + ", 2)", x.sums(n, 2), y.lord(0, 4) + y.lord(1, 4));
            y.seasons(1);
        }
        Check.due("nothing has passed", x.has(3), 0);
        Check.due("later(0, 61)", x.later(0, 61), -1);
        Check.due("later(0, -1)", x.later(0, -1), -1);
        Check.due("later(5, 0)", x.later(5, 0), -1);
        Check.due("later(-1, 0)", x.later(-1, 0), -1);
        Check.due("sums(61, 0)", x.sums(61, 0), -1);
        Check.due("sums(-1, 0)", x.sums(-1, 0), -1);
        Check.due("sums(0, 3)", x.sums(0, 3), -1);
        Check.due("sums(0, -1)", x.sums(0, -1), -1);
    }

    private static void straight() {
        String head = "valley 3 by 2 reach 1;eats 0;bend ";
        Check.due("now", Check.river(head + "not all;").straight(), 0);
        Check.due("never", Check.river(head + "all;").straight(), -1);
        Check.due("behind 1", Check.river(head + "season<1;").straight(), 1);
        Check.due("behind 60", Check.river(head + "season<60;").straight(), 60);
        Check.due("behind 61", Check.river(head + "season<61;").straight(), -1);
        Check.due("first", Check.river(head + "not season=3 and not season=7;").straight(), 3);
        BentRiver x = Check.river(head + "season<999;");
        int[] bytes = Check.image(x);
        bytes[0] = 3;
        bytes[1] = 998 - 768;
        Check.due("on", Check.on(x, Check.sealed(bytes)), true);
        Check.due("season", x.has(3), 998);
        Check.due("in the last season", x.straight(), 1);
        BentRiver y = Check.river(head + "all;");
        Check.due("on", Check.on(y, Check.sealed(bytes)), true);
        Check.due("not beyond 999", y.straight(), -1);
        // it would be straight behind three seasons, of which one comes
        BentRiver z = Check.river("valley 3 by 4 reach 7;runs 1 3;eats column*(2-column)*(4-row);bend turn>0;");
        Check.due("behind three", z.straight(), 3);
        bytes = Check.image(z);
        bytes[0] = 3;
        bytes[1] = 998 - 768;
        Check.due("on", Check.on(z, Check.sealed(bytes)), true);
        Check.due("not beyond 999", z.straight(), -1);
    }

    private static void limits() {
        BentRiver x = Check.river("valley 3 by 2 reach 1;");
        Check.due("seasons(0)", x.seasons(0), -1);
        Check.due("seasons(-1)", x.seasons(-1), -1);
        Check.due("seasons(101)", x.seasons(101), -1);
        Check.due("chance(0)", x.chance(0), -1);
        Check.due("chance(101)", x.chance(101), -1);
        Check.due("chance(least)", x.chance(Integer.MIN_VALUE), -1);
        Check.due("status(3)", x.status(3), 6);
        Check.due("no act", x.has(10), 0);
        Check.due("chance(1)", x.chance(1), 0);
        Check.due("season", x.has(3), 1);
        x.undo();
        for (int i = 0; i < 9; i++) {
            Check.due("seasons(100)", x.seasons(100), 0);
        }
        Check.due("seasons(100) beyond 999", x.seasons(100), -1);
        Check.due("chance(100) beyond 999", x.chance(100), -1);
        Check.due("later", x.later(0, 60), 0);
        Check.due("chance(90)", x.chance(90), 0);
        Check.due("later beyond", x.later(0, 10), -1);
        Check.due("sums beyond", x.sums(10, 0), -1);
        Check.due("later not beyond", x.later(0, 9), 0);
        Check.due("works beyond", x.works(0, 0, 10, -1), -1);
        Check.due("works not beyond", x.works(0, 0, 9, -1), 0);
        Check.due("rest beyond", x.rest(10), -1);
        Check.due("rest not beyond", x.rest(9), 0);
        Check.due("seasons(9)", x.seasons(9), 0);
        Check.due("season", x.has(3), 999);
        Check.due("kept", x.kept(39, 0), 998);
        Check.due("seasons(1) beyond 999", x.seasons(1), -1);
        Check.due("chance(1) beyond 999", x.chance(1), -1);
        Check.due("status(3)", x.status(3), 10);
        Check.due("undo", x.undo(), true);
        Check.due("seasons(9) again", x.seasons(9), 0);
    }

    private static void timesAtMost() {
        BentRiver x = Check.river("valley 3 by 2 reach 1;runs 1 1;eats 0;");
        x.seasons(98);
        Check.due("times", x.cell(1, 1, 2), 98);
        Check.due("times", x.cell(0, 0, 2), 98);
        Check.due("times", x.cell(1, 0, 2), 0);
        x.seasons(1);
        Check.due("times", x.cell(1, 1, 2), 99);
        x.seasons(1);
        Check.due("times at most", x.cell(1, 1, 2), 99);
    }

    private static int x = 0;

    private static int draw(int m) {
        x = (int) ((1103515245L * x + 12345L) % (1L << 31));
        return x / 64 % m;
    }

    private static void draws() {
        for (int spate : new int[] {0, 1, 35, 99, 100}) {
            for (int seed : new int[] {1, 0, 77, Integer.MAX_VALUE}) {
                drawsBy(spate, seed);
            }
        }
        BentRiver one = Check.river("valley 3 by 2 reach 1;spate 50;");
        Check.due("seed(-1)", one.seed(-1), false);
        Check.due("seed(least)", one.seed(Integer.MIN_VALUE), false);
        Check.due("status(5)", one.status(5), 2);
        BentRiver two = Check.river("valley 3 by 2 reach 1;spate 50;");
        Check.due("seed(1)", two.seed(1), true);
        Check.due("1 at first", one.chance(50), two.chance(50));
        Check.due("alike", Check.told(one).equals(Check.told(two)), true);
        // the seed is not undone
        one.undo();
        one.chance(50);
        two.chance(50);
        two.undo();
        two.undo();
        int spates = two.chance(50);
        one.undo();
        Check.due("the seed goes on", one.chance(50), spates);
        Check.due("alike", Check.told(one).equals(Check.told(two)), true);
    }

    /** The river itself stays by eats 0, so that all moves are spates. */
    private static void drawsBy(int spate, int seed) {
        BentRiver river = Check.river("valley 5 by 4 reach 1;runs 0 1;runs 4 3;eats 0;bend all;spate 3;spate " + spate
            + ";lord a from 2 to 2 pays 1 joy 0 purse 999;");
        Check.due("seed", river.seed(seed), true);
        x = seed;
        int[] runs = {1, 0, 0, 0, 3};
        int spates = 0;
        for (int i = 0; i < 70; i++) {
            if (draw(100) < spate) {
                spates++;
                int c = draw(5);
                int to = runs[c] + (draw(2) == 0 ? -1 : 1);
                runs[c] = to < 0 || to > 3 ? runs[c] : to;
            }
        }
        Check.due("spates by " + spate + ", " + seed, river.chance(70), spates);
        rows("by " + spate + ", " + seed, river, runs);
        Check.due("one act", river.has(10), 1);
        Check.due("season", river.has(3), 70);
        Check.due("fund", river.has(4), 70);
        river.undo();
        rows("undone", river, 1, 0, 0, 0, 3);
    }
}
