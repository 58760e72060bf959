/** Promises 21 to 23: what is SEEN, where the river ran, what tells most. */
public final class SeenTest {
    /** Column 2: rows 1 and 2 meet in row 1 behind one season, but column 1 then tells them apart. */
    private static final String LATER = "valley 4 by 3 reach 7;"
        + "eats max(0,1-(column-1)*(column-1))*max(0,1-season)*max(0,turn-1)"
        + "+max(0,1-(column-2)*(column-2))*(max(0,1-season)*max(0,turn-2)"
        + "+max(0,1-(season-1)*(season-1))*row*max(0,turn-1));";

    public static void main(String[] args) {
        seeing();
        ran();
        tells();
        nearTheEnd();
        Check.finish();
    }

    private static int see(BentRiver x, int... bytes) {
        Check.feed(x, bytes);
        return x.see();
    }

    private static void seeing() {
        BentRiver none = new BentRiver();
        Check.due("without a valley", see(none, 0, 0, 0), -1);
        Check.due("the tape went", none.end(1), false);
        BentRiver x = Check.river("valley 4 by 3 reach 2;");
        Check.due("nothing", see(x), -1);
        Check.due("one byte", see(x, 0), -1);
        Check.due("four bytes", see(x, 0, 0, 0, 0), -1);
        Check.due("one row", see(x, 30, 3, 2), 1);
        Check.due("has(9)", x.has(9), 1);
        Check.due("season 31", see(x, 0, 0, 0, 31, 0, 0), -1);
        Check.due("season 255", see(x, 255, 0, 0), -1);
        Check.due("column 4", see(x, 0, 4, 0), -1);
        Check.due("column 200", see(x, 0, 200, 0), -1);
        Check.due("row 3", see(x, 0, 0, 3), -1);
        Check.due("row 128", see(x, 0, 0, 128), -1);
        Check.due("all staying", x.has(9), 1);
        Check.due("status(1)", x.status(1), 9);
        Check.due("the tape went", x.end(1), false);
        Check.due("sixteen rows", see(x, new int[48]), 16);
        Check.due("has(9)", x.has(9), 16);
        Check.due("seventeen rows", see(x, new int[51]), -1);
        Check.due("has(9)", x.has(9), 16);
        Check.due("two rows, no more", see(x, 0, 0, 0, 1, 0, 0), 2);
        Check.due("has(9)", x.has(9), 2);
        Check.due("column 3 of 3", see(Check.river("valley 3 by 3 reach 1;"), 0, 3, 0), -1);
        x.seasons(3);
        x.undo();
        Check.on(x, Check.image(x));
        Check.due("stays SEEN", x.has(9), 2);
    }

    private static void ran() {
        // the middle column goes to the row less by one as long as it can
        BentRiver x = Check.river("valley 3 by 6 reach 7;runs 1 5;eats column*(2-column)*(9-row);");
        Check.due("all, if nothing is SEEN", x.ran(1), 63);
        Check.due("no such column", x.ran(3), -1);
        Check.due("no such column", x.ran(-1), -1);
        see(x, 2, 1, 1);
        // 3 comes to 1 in two seasons; 1 goes to 0 and then back to 1
        Check.due("behind 2", x.ran(1), 1 << 3 | 1 << 1);
        Check.due("another column", x.ran(0), 0);
        see(x, 2, 1, 3);
        Check.due("as it is", x.ran(0), 63);
        Check.due("as it is", x.ran(1), 1 << 5);
        see(x, 0, 1, 4, 1, 1, 3);
        Check.due("both", x.ran(1), 1 << 4);
        see(x, 0, 1, 4, 1, 1, 4);
        Check.due("not both", x.ran(1), 0);
        see(x, 0, 0, 1);
        Check.due("now", x.ran(0), 2);
        Check.due("now, elsewhere", x.ran(1), 0);
        Check.due("the state stays", x.column(1, 0), 5);
        x.seasons(1);
        see(x, 1, 1, 3);
        Check.due("from now on", x.ran(1), 1 << 4);
    }

    private static void tells() {
        BentRiver x = Check.river("valley 3 by 6 reach 7;runs 1 5;eats column*(2-column)*(9-row);");
        // behind 1: 1 0 1 2 3 4: of rows 0 and 2 two are left
        Check.due("season", x.tells(1, 0), 1);
        Check.due("left", x.tells(1, 1), 2);
        Check.due("another what", x.tells(1, 2), -1);
        Check.due("another what", x.tells(1, -1), -1);
        Check.due("no such column", x.tells(3, 0), -1);
        Check.due("no such column", x.tells(-1, 0), -1);
        see(x, 0, 1, 5);
        Check.due("season of one", x.tells(1, 0), 1);
        Check.due("one left", x.tells(1, 1), 1);
        see(x, 0, 1, 5, 0, 1, 4);
        Check.due("without a row", x.tells(1, 0), -1);
        Check.due("without a row", x.tells(1, 1), -1);
        // it stays where it is ahead of season 2, so that all is told at once
        BentRiver y = Check.river("valley 3 by 3 reach 7;eats column*(2-column)*max(0,season-1)*(2-row);");
        Check.due("season", y.tells(1, 0), 1);
        Check.due("left", y.tells(1, 1), 1);
        BentRiver z = Check.river(LATER);
        Check.due("season", z.tells(2, 0), 2);
        Check.due("left", z.tells(2, 1), 1);
    }

    private static void nearTheEnd() {
        BentRiver y = Check.river("valley 3 by 5 reach 7;eats 0;");
        int[] bytes = Check.image(y);
        bytes[0] = 3;
        bytes[1] = 998 - 768;
        Check.due("on", Check.on(y, Check.sealed(bytes)), true);
        Check.due("all are told apart", y.tells(1, 0), 1);
        Check.due("all are told apart", y.tells(1, 1), 1);
        BentRiver x = Check.river("valley 3 by 2 reach 7;eats column*(2-column);");
        for (int i = 0; i < 9; i++) {
            x.seasons(100);
        }
        x.seasons(97);
        see(x, 2, 0, 0);
        Check.due("SEASON 999", x.ran(0), 1);
        Check.due("told", x.tells(0, 0), 1);
        see(x, 2, 0, 0, 3, 0, 0);
        Check.due("SEASONS beyond 999 are by none", x.ran(0), 0);
        Check.due("without a row", x.tells(0, 0), -1);
        see(x, 0, 0, 0);
        x.seasons(1);
        Check.due("the last SEASON", x.tells(0, 0), 1);
        Check.due("the last SEASON", x.tells(0, 1), 1);
        x.seasons(1);
        Check.due("now", x.ran(0), 1);
        Check.due("no SEASON comes", x.tells(0, 0), -1);
        Check.due("no SEASON comes", x.tells(0, 1), -1);
    }
}
