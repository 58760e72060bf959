/** The largest valley that there is, with all that a text can tell most of. */
public final class LargestTest {
    private static final String LORDS = "lord a from 0 to 9 pays 1 joy 5 purse 999;lord b from 0 to 9 pays 2 joy 4 purse 999;"
        + "lord c from 0 to 9 pays 3 joy 3 purse 999;lord d from 9 to 9 pays 4 joy 2 purse 999;"
        + "lord efghij from 5 to 9 pays 5 joy 99 purse 999;";

    public static void main(String[] args) {
        images();
        edges();
        deepest();
        Check.finish();
    }

    private static void images() {
        BentRiver x = Check.river("valley 10 by 8 reach 7;" + LORDS + "runs 9 7;runs 0 7;willow 9 7;bend all;");
        Check.due("letter", x.letter(4, 5), 10);
        Check.due("paid", x.seasons(1), 10 * 6 + 4 + 25);
        int[] bytes = Check.image(x);
        Check.due("bytes", bytes.length, 191);
        Check.due("sealed", Check.sealed(bytes.clone())[190], bytes[190]);
        Check.due("the last purse", bytes[188] * 256 + bytes[189], 974);
        Check.due("on", Check.on(x, bytes), true);
        Check.due("again", x.image(), 191);
        Check.due("the last byte", x.octet(190), bytes[190]);
        Check.due("none behind", x.octet(191), -1);
    }

    private static void edges() {
        BentRiver x = Check.river("valley 10 by 8 reach 7;" + LORDS + "runs 9 6;runs 0 6;willow 9 7;soil 9 7 9;eats row-6-roots;"
            + "bend column=9 and row=7;");
        Check.due("the last column", x.column(9, 0), 6);
        Check.due("the last cell", x.cell(9, 7, 0), 9);
        Check.due("the last cell", x.cell(9, 7, 1), 1);
        Check.due("later", x.later(0, 1), 7);
        Check.due("later", x.later(9, 1), 6);
        // only the first column can go at first; a willow there holds it
        Check.due("works", x.works(0, 6, 1, 0), 7);
        Check.due("no willow is taken away", x.works(9, 7, 1, -1), -1);
        Check.due("rest", x.rest(1), 0);
        Check.due("dream", x.dream(-1), 15);
        Check.due("dream(8)", x.dream(8), 0);
        Check.due("dream(9)", x.dream(9), 7);
        Check.due("no such column", x.dream(10), -1);
        Check.due("barge", x.barge(), 10 + 12);
        int[] seen = new int[48];
        for (int i = 0; i < 48; i += 3) {
            seen[i] = 30;
            seen[i + 1] = 9;
            seen[i + 2] = 7;
        }
        Check.feed(x, seen);
        Check.due("see", x.see(), 16);
        Check.due("ran", x.ran(9), 128);
        Check.due("tells", x.tells(9, 0), 1);
        Check.due("ran", x.ran(0), 0);
        Check.feed(x, 30, 0, 7);
        Check.due("see", x.see(), 1);
        Check.due("from row 6 and 7", x.ran(0), 192);
        Check.due("tells", x.tells(0, 0), 1);
        Check.due("left", x.tells(0, 1), 2);
        Check.due("row of the last", Check.ask(x, "most row 9*10+row 10"), 59);
        Check.due("turn of the last but one", Check.ask(x, "most turn 8"), 6);
        for (int i = 0; i < 100; i++) {
            x.chance(1);
        }
        Check.due("season", x.has(3), 100);
    }

    /** As many numbers wait as ever can, while the innermost PART is reached. */
    private static void deepest() {
        StringBuilder text = new StringBuilder("valley 3 by 2 reach 1;bend ");
        for (int i = 0; i < 6; i++) {
            text.append("column=7 or row=0 and [");
        }
        text.append("column=7 or row=0 and 1<9-2*1");
        for (int i = 0; i < 6; i++) {
            text.append("]");
        }
        Check.due("bends", Check.river(text + ";").has(5), 3);
        StringBuilder sum = new StringBuilder();
        for (int i = 0; i < 6; i++) {
            sum.append("max(0,1+2*");
        }
        sum.append("1");
        for (int i = 0; i < 6; i++) {
            sum.append(")");
        }
        Check.due("sum", Check.river("valley 3 by 2 reach 1;eats " + sum + ";").eats(0, 0), 127);
    }
}
