/** Promises 6 to 11: what a valley tells of itself. */
public final class ValleyTest {
    public static void main(String[] args) {
        counts();
        names();
        columns();
        cells();
        eatsByWords();
        bendByWords();
        sumsAndTests();
        lords();
        Check.finish();
    }

    private static BentRiver example() {
        return Check.river("valley 5 by 4 reach 3;runs 0 1;runs 1 3;runs 2 0;runs 2 2;runs 3 3;"
            + "soil 1 1 0;soil 1 2 9;soil 1 2 8;willow 1 2;willow 1 2;willow 4 0;"
            + "lord ab from 0 to 2 pays 7 joy 3 purse 20;lord zyxwvu from 2 to 4 pays 5 joy 99 purse 4;"
            + "lord c from 1 to 1 pays 0 joy 0 purse 999;");
    }

    private static void counts() {
        BentRiver x = example();
        int[] due = {5, 4, 3, 0, 0, 3, 3, 3, 0, 0, 0};
        for (int what = 0; what < due.length; what++) {
            Check.due("has(" + what + ")", x.has(what), due[what]);
        }
        Check.due("has(-1)", x.has(-1), -1);
        Check.due("has(11)", x.has(11), -1);
        x.offer(1, 0);
        x.plant(0, 0);
        Check.due("who OFFER", x.has(6), 2);
        Check.due("willows", x.has(7), 4);
        Check.due("can be undone", x.has(10), 2);
    }

    private static void names() {
        BentRiver x = example();
        int[] ab = {1, 2, 0, 0, 0, 0};
        for (int k = 0; k < 6; k++) {
            Check.due("letter(0, " + k + ")", x.letter(0, k), ab[k]);
            Check.due("letter(1, " + k + ")", x.letter(1, k), 26 - k);
        }
        Check.due("letter(0, 6)", x.letter(0, 6), -1);
        Check.due("letter(0, -1)", x.letter(0, -1), -1);
        Check.due("letter(3, 0)", x.letter(3, 0), -1);
        Check.due("letter(-1, 0)", x.letter(-1, 0), -1);
    }

    private static void columns() {
        BentRiver x = example();
        int[] runs = {1, 3, 2, 3, 0};
        int[] turns = {0, 3, 2, 4, 0};
        int[] bends = {0, 1, 1, 1, 0};
        int[] pays = {7, 7, 7, 0, 0};
        for (int c = 0; c < 5; c++) {
            Check.due("row of " + c, x.column(c, 0), runs[c]);
            Check.due("turn of " + c, x.column(c, 1), turns[c]);
            Check.due("bend of " + c, x.column(c, 2), bends[c]);
            Check.due("pay of " + c, x.column(c, 3), pays[c]);
        }
        Check.due("column(0, 4)", x.column(0, 4), -1);
        Check.due("column(0, -1)", x.column(0, -1), -1);
        Check.due("column(5, 0)", x.column(5, 0), -1);
        Check.due("column(-1, 0)", x.column(-1, 0), -1);
        x.offer(0, 0);
        Check.due("one who does not OFFER", x.column(0, 3), 0);
    }

    private static void cells() {
        BentRiver x = example();
        Check.due("soil told", x.cell(1, 1, 0), 0);
        Check.due("soil told last", x.cell(1, 2, 0), 8);
        Check.due("soil without", x.cell(0, 0, 0), 5);
        Check.due("willows", x.cell(1, 2, 1), 2);
        Check.due("willow", x.cell(4, 0, 1), 1);
        Check.due("no willow", x.cell(4, 1, 1), 0);
        Check.due("never ran", x.cell(0, 1, 2), 0);
        Check.due("another what", x.cell(0, 1, 3), -1);
        Check.due("another what", x.cell(0, 1, -1), -1);
        Check.due("no such row", x.cell(0, 4, 0), -1);
        Check.due("no such row", x.cell(0, -1, 0), -1);
        Check.due("no such column", x.cell(5, 0, 0), -1);
        Check.due("no such column", x.cell(-1, 0, 0), -1);
    }

    private static void eatsByWords() {
        BentRiver x = example();
        Check.due("plain eats", x.eats(1, 2), 7 + 3 - 8 - 2);
        Check.due("plain eats elsewhere", x.eats(4, 0), 0 + 0 - 5 - 1);
        Check.due("where the river runs", x.eats(1, 3), 7 + 3 - 5);
        Check.due("no such row", x.eats(1, 4), BentRiver.NOTHING);
        Check.due("no such row", x.eats(1, -1), BentRiver.NOTHING);
        Check.due("no such column", x.eats(5, 1), BentRiver.NOTHING);
        Check.due("no such column", x.eats(-1, 1), BentRiver.NOTHING);
        String head = "valley 3 by 4 reach 3;runs 0 3;runs 1 1;runs 2 2;soil 1 3 7;willow 1 3;willow 1 3;"
            + "lord a from 1 to 2 pays 9 joy 0 purse 999;lord b from 0 to 1 pays 30 joy 0 purse 29;";
        String[] words = {"column", "row", "turn", "season", "soil", "roots", "pay", "ever"};
        int[] first = {1, 3, 3, 0, 7, 2, 9, 0};
        for (int i = 0; i < words.length; i++) {
            Check.due(words[i], Check.river(head + "eats " + words[i] + ";").eats(1, 3), first[i]);
        }
        // the river stays where it is told: behind two seasons each was run in twice
        BentRiver z = Check.river(head + "eats 0-ever*100-season;");
        z.seasons(2);
        Check.due("ever and season", z.eats(1, 1), -202);
        Check.due("never there", z.eats(1, 3), -2);
    }

    private static void bendByWords() {
        String head = "valley 4 by 5 reach 4;runs 0 4;runs 1 1;runs 2 3;runs 3 0;";
        bends(head, "turn = 5", 0, 1, 1, 0);
        bends(head, "turn = 0", 1, 0, 0, 1);
        bends(head, "column > 1", 0, 0, 1, 1);
        bends(head, "row < 2", 0, 1, 0, 1);
        bends(head, "before = row", 1, 0, 0, 0);
        bends(head, "behind = row", 0, 0, 0, 1);
        bends(head, "before = 4", 1, 1, 0, 0);
        bends(head, "behind = 3", 0, 1, 0, 0);
        bends(head, "behind = 0", 0, 0, 1, 1);
        bends(head, "season = 0", 1, 1, 1, 1);
        bends(head, "season > 0", 0, 0, 0, 0);
        bends(head, "not all", 0, 0, 0, 0);
        bends(head, "column=0 or column=1 and column=2", 1, 0, 0, 0);
        bends(head, "[column=0 or column=1] and column<1", 1, 0, 0, 0);
        bends(head, "not column=0 and not column=3", 0, 1, 1, 0);
        bends(head, "not [column=0 or column=3]", 0, 1, 1, 0);
        bends(head, "not not column=2", 0, 0, 1, 0);
    }

    private static void bends(String head, String test, int... due) {
        BentRiver x = Check.river(head + "bend " + test + ";");
        int all = 0;
        for (int c = 0; c < due.length; c++) {
            Check.due("bend " + test + " in " + c, x.column(c, 2), due[c]);
            all += due[c];
        }
        Check.due("bends by " + test, x.has(5), all);
    }

    private static void sumsAndTests() {
        value("2+3*4", 14);
        value("10-4-3", 3);
        value("100/7/2", 7);
        value("2*9/4*2", 8);
        value("(2+3)*4", 20);
        value("7/0", 0);
        value("(0-7)/0", 0);
        value("(0-7)/2", -4);
        value("7/(0-2)", -4);
        value("(0-8)/2", -4);
        value("(0-7)/(0-2)", 3);
        value("9999*9999", 1000000);
        value("9999*9999+1", 1000000);
        value("9999*9999-1", 999999);
        value("0-9999*9999", -1000000);
        value("0-9999*9999-1", -1000000);
        value("0-9999*9999+1", -999999);
        value("(0-9999)*9999*2", -1000000);
        value("1000*1000", 1000000);
        value("1000*1000+0001", 1000000);
        value("1000*1000*(0-1)*1000*1000", -1000000);
        value("min(3,2)+max(3,2)*10", 32);
        value("min(0-3,2)", -3);
        value("max(min(5,9),4)-1", 4);
        value("9999", 9999);
        value("0000", 0);
        value(" 1 \n+\n 2 ", 3);
    }

    private static void value(String sum, long due) {
        Check.due(sum, Check.river("valley 3 by 2 reach 1;eats " + sum + ";").eats(0, 0), due);
    }

    private static void lords() {
        BentRiver x = example();
        int[][] due = {{0, 2, 7, 3, 20, 1, 2}, {2, 4, 5, 99, 4, 1, 2}, {1, 1, 0, 0, 999, 1, 1}};
        for (int lord = 0; lord < 3; lord++) {
            for (int what = 0; what < 7; what++) {
                Check.due("lord(" + lord + ", " + what + ")", x.lord(lord, what), due[lord][what]);
            }
        }
        Check.due("lord(0, 7)", x.lord(0, 7), -1);
        Check.due("lord(0, -1)", x.lord(0, -1), -1);
        Check.due("lord(3, 0)", x.lord(3, 0), -1);
        Check.due("lord(-1, 0)", x.lord(-1, 0), -1);
        x.offer(2, 0);
        Check.due("takes it back", x.lord(2, 5), 0);
    }
}
