/** Promises 16 to 20: WORKS, REST, BARGE, CUT, DREAM. */
public final class ForecastTest {
    /** Column 1 goes if just one of two offers; a has joy (in column 0) if it stays, b (in column 2) if it goes. */
    private static final String NO_REST = "valley 4 by 4 reach 7;runs 1 2;"
        + "eats max(0,1-(column-1)*(column-1))*pay*(3-pay);"
        + "bend column=0 and behind=2 or column=2 and before=1;"
        + "lord a from 0 to 1 pays 1 joy 9 purse 99;lord b from 1 to 2 pays 2 joy 9 purse 99;";

    public static void main(String[] args) {
        works();
        worksAtNine();
        rest();
        barge();
        dream();
        Check.finish();
    }

    private static void works(BentRiver x, int column, int row, int n, int... due) {
        String call = "works(" + column + ", " + row + ", " + n + ", ";
        Check.due(call + "NONE)", x.works(column, row, n, -1), due.length);
        for (int k = 0; k < due.length; k++) {
            Check.due(call + k + ")", x.works(column, row, n, k), due[k]);
        }
        Check.due(call + due.length + ")", x.works(column, row, n, due.length), -1);
        Check.due(call + "-2)", x.works(column, row, n, -2), -1);
    }

    private static void works() {
        // the middle column alone goes, to the row less by one with SUM 2, to the row more with SUM 1
        BentRiver x = Check.river("valley 3 by 3 reach 7;runs 1 1;eats column*(2-column)*(2-row/2-roots);");
        works(x, 1, 0, 1);
        works(x, 1, 2, 1, 8, 8);
        works(x, 1, 1, 2);
        Check.due("staying takes three", x.works(1, 1, 1, -1), -1);
        Check.due("the state stays", x.has(7), 0);
        Check.due("no such column", x.works(3, 0, 1, -1), -1);
        Check.due("no such column", x.works(-1, 0, 1, -1), -1);
        Check.due("no such row", x.works(0, 3, 1, -1), -1);
        Check.due("no such row", x.works(0, -1, 1, -1), -1);
        Check.due("n is 0", x.works(1, 0, 0, -1), -1);
        Check.due("n is 0", x.works(1, 1, 0, -1), -1);
        Check.due("n is 21", x.works(1, 0, 21, -1), -1);
        Check.due("n is 20", x.works(1, 1, 20, -1), 0);
        // one in each of two cells: the first comes first
        BentRiver y = Check.river("valley 3 by 3 reach 7;runs 1 1;eats column*(2-column)*(1-roots);");
        works(y, 1, 0, 1);
        works(y, 1, 2, 1, 8);
        works(y, 1, 1, 1, 8, 10);
        Check.due("far away", y.works(0, 1, 1, -1), -1);
        Check.due("without roots", Check.river("valley 3 by 3 reach 7;runs 1 1;eats column*(2-column);")
            .works(1, 2, 1, -1), -1);
        // one of the first column that turns the second
        BentRiver z = Check.river("valley 3 by 3 reach 1;eats (1-roots)*(2-row);");
        works(z, 2, 1, 1);
        works(z, 1, 0, 1, 9);
        works(z, 0, 0, 1, 1);
    }

    private static void worksAtNine() {
        String text = "valley 3 by 3 reach 7;runs 1 1;eats column*(2-column)*(11-row-roots);";
        BentRiver x = Check.river(text + "willow 1 0;".repeat(8));
        // row 0 has 3, row 2 has 9: it goes to 2 already; to row 0 no willow of two can bring it
        works(x, 1, 2, 1);
        Check.due("not to 0", x.works(1, 0, 1, -1), -1);
        BentRiver y = Check.river("valley 3 by 3 reach 7;runs 1 1;eats column*(2-column)*(10-row/2-roots);"
            + "willow 1 2;".repeat(7) + "willow 1 0;".repeat(7));
        // 3 and 2: one in row 0 makes them alike, so that the less one still wins; two are needed
        works(y, 1, 2, 1, 8, 8);
        y.plant(1, 0);
        y.plant(1, 2);
        Check.due("a tenth can't be", y.works(1, 2, 1, -1), -1);
        y.plant(1, 0);
        works(y, 1, 0, 1);
        Check.due("only one fits", y.works(1, 2, 1, -1), -1);
        // a ninth willow can be set, one in each of two cells, too
        BentRiver z = Check.river("valley 3 by 3 reach 7;runs 1 1;eats column*(2-column)*(9-roots);"
            + "willow 1 0;".repeat(8) + "willow 1 2;".repeat(8));
        works(z, 1, 0, 1);
        works(z, 1, 2, 1, 8);
        works(z, 1, 1, 1, 8, 10);
    }

    private static void rest() {
        // all is a bend: joy comes without paying, so none offers
        Check.due("none offers", Check.river("valley 3 by 2 reach 1;bend all;"
            + "lord a from 0 to 2 pays 1 joy 9 purse 99;").rest(5), 0);
        Check.due("without lords", Check.river("valley 3 by 2 reach 1;").rest(1), 0);
        BentRiver x = Check.river("valley 3 by 3 reach 7;runs 1 1;eats pay*column*(2-column);bend turn>2;"
            + "lord a from 1 to 1 pays 1 joy 9 purse 99;");
        // rows 0 1 0: it goes to row 0, where it is straight: to offer is only paid for nothing
        Check.due("no joy", x.rest(1), 0);
        BentRiver y = Check.river("valley 3 by 3 reach 7;runs 0 2;runs 1 1;runs 2 2;"
            + "eats pay*column*(2-column)*(1-season);bend turn>3;lord a from 1 to 1 pays 5 joy 9 purse 99;");
        // to row 0 by its offer: a BEND in each of n seasons for 5 of each
        Check.due("one offers", y.rest(1), 1);
        Check.due("one offers", y.rest(30), 1);
        Check.due("n is 0", y.rest(0), -1);
        Check.due("n is 31", y.rest(31), -1);
        Check.due("n is -1", y.rest(-1), -1);
        y.offer(0, 0);
        Check.due("whoever OFFERS now", y.rest(1), 1);
        Check.due("the state stays", y.lord(0, 5), 0);
        // joy of just what he pays is no more: the fewest
        Check.due("no more", Check.river("valley 3 by 3 reach 7;runs 0 2;runs 1 1;runs 2 2;"
            + "eats pay*column*(2-column);bend turn>3;lord a from 1 to 1 pays 9 joy 9 purse 99;").rest(1), 0);
        // one of two is enough: of like ones the least bits
        String two = "valley 3 by 3 reach 7;runs 0 2;runs 1 1;runs 2 2;eats pay*column*(2-column);bend turn>3;";
        Check.due("either", Check.river(two + "lord a from 1 to 1 pays 5 joy 9 purse 99;"
            + "lord b from 1 to 1 pays 5 joy 9 purse 99;").rest(1), 1);
        Check.due("the second", Check.river(two + "lord a from 1 to 1 pays 9 joy 8 purse 99;"
            + "lord b from 1 to 1 pays 5 joy 9 purse 99;").rest(1), 2);
        // it takes both to make it go; where none offers neither can alone, so that the fewest are none
        String both = two.replace("eats pay", "eats (pay-9)");
        Check.due("none of two", Check.river(both + "lord a from 1 to 1 pays 5 joy 9 purse 99;"
            + "lord b from 0 to 1 pays 5 joy 9 purse 99;").rest(1), 0);
        // a BEND comes if just one offers: a has joy of it, b has none
        Check.due("one alone", Check.river(two.replace("eats pay", "eats pay*(9-pay)")
            + "lord a from 1 to 1 pays 5 joy 9 purse 99;lord b from 1 to 1 pays 5 joy 0 purse 99;").rest(1), 1);
        // two make it go, but so does the third alone
        Check.due("the fewest", Check.river(both + "lord a from 1 to 1 pays 5 joy 20 purse 99;"
            + "lord b from 1 to 1 pays 5 joy 20 purse 99;lord c from 1 to 1 pays 10 joy 20 purse 99;").rest(1), 4);
        // whatever the others do, one of the two would do otherwise
        Check.due("without rest", Check.river(NO_REST).rest(1), -1);
    }

    private static void barge() {
        BentRiver x = Check.river("valley 5 by 8 reach 7;runs 0 0;runs 1 7;runs 2 3;runs 3 3;runs 4 5;");
        Check.due("barge", x.barge(), 5 + 7 + 4 + 0 + 2);
        // cut 1: row 1 (saves 7+4-1-2=8); cut 2: row 5 saves 0; cut 3: row 4 saves 0
        Check.due("cuts", x.cuts(), 1);
        x.cut(1);
        Check.due("barge", x.barge(), 5 + 1 + 2 + 0 + 2);
        Check.due("none is better", x.cuts(), -1);
        Check.due("straight", Check.river("valley 3 by 2 reach 1;").barge(), 3);
        Check.due("of like ones the first",
            Check.river("valley 5 by 3 reach 7;runs 1 2;runs 3 2;").cuts(), 1);
        Check.due("the better one",
            Check.river("valley 6 by 8 reach 7;runs 1 2;runs 4 4;").cuts(), 4);
        Check.due("the last column is not cut",
            Check.river("valley 3 by 8 reach 7;runs 2 7;").cuts(), -1);
        // rounded down
        BentRiver y = Check.river("valley 3 by 8 reach 7;runs 0 3;runs 1 7;runs 2 4;");
        Check.due("cut", y.cut(1), true);
        Check.due("rounded down", y.column(1, 0), 3);
    }

    private static void dream(String text, int... due) {
        BentRiver x = Check.river(text);
        Check.due("dream(NONE) of " + text, x.dream(-1), due[0]);
        for (int c = 0; c + 1 < due.length; c++) {
            Check.due("dream(" + c + ") of " + text, x.dream(c), due[c + 1]);
        }
        Check.due("dream of none such", x.dream(due.length - 1), -1);
        Check.due("dream(-2)", x.dream(-2), -1);
    }

    private static void dream() {
        dream("valley 3 by 2 reach 1;runs 1 1;", 0, 0, 0, 0);
        String lord = "lord a from 0 to 9 pays 3 joy 0 purse 3;";
        dream("valley 10 by 2 reach 1;" + lord, 24, 0, 0, 1, 0, 0, 1, 0, 0, 1, 0);
        dream("valley 10 by 3 reach 1;bend turn>2;" + lord, 0, 0, 0, 0, 0, 0, 0, 0, 0, 0, 0);
        dream("valley 10 by 3 reach 2;bend turn>2;" + lord, 24, 0, 2, 0, 2, 0, 2, 0, 2, 0, 1);
        // without purses: 24 of one that has 3; but one that has too little for one offers nothing
        dream("valley 10 by 2 reach 1;lord a from 0 to 9 pays 4 joy 0 purse 3;", 0, 0, 0, 0, 0, 0, 0, 0, 0, 0, 0);
        // the first and the last column by their own rows as before and behind
        dream("valley 3 by 4 reach 1;bend column=0 and before=2 and behind=1 or column=2 and behind=0 and before=1;"
            + "lord a from 0 to 2 pays 1 joy 0 purse 9;", 2, 2, 1, 0);
        dream("valley 3 by 4 reach 1;bend season=1;lord a from 0 to 2 pays 1 joy 0 purse 9;", 0, 0, 0, 0);
        BentRiver x = Check.river("valley 3 by 2 reach 1;lord a from 1 to 1 pays 5 joy 0 purse 9;");
        x.offer(0, 0);
        Check.due("offers of now", x.dream(-1), 0);
        // a larger valley ahead of a smaller one leaves nothing
        String lordOfAll = "bend row=2;lord a from 0 to 2 pays 5 joy 0 purse 9;";
        BentRiver y = Check.river("valley 3 by 3 reach 1;" + lordOfAll);
        Check.due("in row 2", y.dream(-1), 15);
        Check.valley(y, "valley 3 by 2 reach 1;" + lordOfAll);
        Check.due("no row 2", y.dream(-1), 0);
        Check.due("no row 2", y.dream(0), 0);
    }
}
