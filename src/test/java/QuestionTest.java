/** Promise 31: QUESTIONS and their FAULTS. */
public final class QuestionTest {
    private static final String TEXT = "valley 5 by 4 reach 3;runs 0 1;runs 1 3;runs 2 2;runs 3 3;eats 0;"
        + "lord a from 0 to 2 pays 7 joy 3 purse 20;lord b from 2 to 4 pays 5 joy 99 purse 4;"
        + "lord c from 1 to 1 pays 0 joy 0 purse 999;";

    public static void main(String[] args) {
        words();
        kinds();
        ofColumns();
        bounds();
        faults();
        withoutValley();
        Check.finish();
    }

    private static void answer(BentRiver x, String question, long due) {
        Check.due(question, Check.ask(x, question), due);
        Check.due("fault(0) of " + question, x.fault(0), 0);
        Check.due("fault(1) of " + question, x.fault(1), -1);
        Check.due("the tape went", x.end(1), false);
    }

    private static void words() {
        BentRiver x = Check.river(TEXT);
        answer(x, "total number", 3);
        answer(x, "total from*100", 300);
        answer(x, "total to", 7);
        answer(x, "total pays", 12);
        answer(x, "total joy", 102);
        answer(x, "total purse", 1023);
        answer(x, "total offers", 3);
        answer(x, "total bends", 5);
        answer(x, "total season", 0);
        x.offer(1, 0);
        x.seasons(2);
        answer(x, "total offers", 2);
        answer(x, "total season", 6);
        answer(x, "most purse*(1-number)", 6);
        answer(x, "total (bends-2)*(number+1)", -3);
    }

    private static void kinds() {
        BentRiver x = Check.river(TEXT);
        answer(x, "first all", 0);
        answer(x, "last all", 2);
        answer(x, "often all", 3);
        answer(x, "first pays<7", 1);
        answer(x, "last pays>0", 1);
        answer(x, "last not pays>0", 2);
        answer(x, "first pays=6", -1);
        answer(x, "last pays=6", -1);
        answer(x, "often pays=6", 0);
        answer(x, "often pays=7 or pays=5 and joy=3", 1);
        answer(x, "often [pays=7 or pays=5]and not joy=3", 1);
        answer(x, "most joy-purse", 95);
        answer(x, "least joy-purse", -999);
        answer(x, "most 0-1-number", -1);
        answer(x, "least 1+number", 1);
        answer(x, "total 0-pays", -12);
        answer(x, " \nmost\n min ( joy , 50 ) + max(number,1) ", 51);
        BentRiver none = Check.river("valley 3 by 2 reach 1;");
        answer(none, "first all", -1);
        answer(none, "last all", -1);
        answer(none, "often all", 0);
        answer(none, "total 7", 0);
        answer(none, "most 7", 0);
        answer(none, "least 0-7", 0);
    }

    private static void ofColumns() {
        BentRiver x = Check.river(TEXT);
        answer(x, "least row 0", 1);
        answer(x, "least row 1", 3);
        answer(x, "least row 4", 0);
        answer(x, "least row 5", -1);
        answer(x, "least row 9999", -1);
        answer(x, "least row(0-1)", -1);
        answer(x, "least turn 0", 0);
        answer(x, "least turn 1", 3);
        answer(x, "least turn 3", 4);
        answer(x, "least turn 4", 0);
        answer(x, "least turn 5", -1);
        answer(x, "least row 1+1", 4);
        answer(x, "least row 1*2", 6);
        answer(x, "least row(1+1)", 2);
        answer(x, "least row row row 0", 3);
        answer(x, "least turn row 0", 3);
        answer(x, "total row from", 1 + 2 + 3);
        answer(x, "total row to", 2 + 0 + 3);
        answer(x, "most row min(to,1)", 3);
        answer(x, "first row number>1", 1);
        answer(x, "least row turn row 0", 3);
    }

    private static void bounds() {
        BentRiver x = Check.river(TEXT);
        answer(x, "most 9999*9999", 1000000);
        answer(x, "least 0-9999*9999-1", -1000000);
        answer(x, "most 7/number", 7);
        answer(x, "least (0-7)/number", -7);
        answer(x, "least (0-7)/(number*2)", -4);
        // of all together: no SUM itself, so it is not bounded
        answer(x, "total 9999*9999", 3000000);
    }

    private static void faulty(int kind, String marked) {
        int place = marked.indexOf('|');
        String question = marked.substring(0, place) + marked.substring(place + 1);
        BentRiver x = Check.river(TEXT);
        String told = Check.told(x);
        Check.due(marked, Check.ask(x, question), BentRiver.NOTHING);
        Check.due("fault(0) of " + marked, x.fault(0), kind);
        Check.due("fault(1) of " + marked, x.fault(1), place);
        Check.due("all stays", told.equals(Check.told(x)), true);
        Check.due("the tape went", x.end(1), false);
        Check.due("not refused", x.status(1), 0);
        answer(x, "often all", 3);
    }

    private static void faults() {
        faulty(1, "|");
        faulty(1, "  |");
        faulty(1, "|all");
        faulty(1, "|firsts all");
        faulty(1, "|First all");
        faulty(1, "|1");
        faulty(1, "first|");
        faulty(1, "first all|;");
        faulty(1, "first all |all");
        faulty(1, "first pays|");
        faulty(1, "total |all");
        faulty(1, "total pays |> 1");
        faulty(1, "total pays |1");
        faulty(1, "total|1");
        faulty(1, "total 1|pays");
        faulty(1, "total |soil");
        faulty(1, "total |column");
        faulty(1, "total |ever");
        faulty(1, "total |roots");
        faulty(1, "total |pay");
        faulty(1, "total |before");
        faulty(1, "total |behind");
        faulty(1, "total |a");
        faulty(1, "total |valley");
        faulty(1, "total row|");
        faulty(1, "total row|1");
        faulty(1, "total row |+ 1");
        faulty(1, "total turn |all");
        faulty(1, "total 1234|5");
        faulty(1, "total row 1234|5");
        faulty(1, "total (1|");
        faulty(4, "total ((((((|(1)))))))");
        faulty(4, "total row row row row row row |row 1");
        faulty(4, "total turn row turn row turn row |(1)");
        faulty(4, "total (((row row row |turn 1)))");
        faulty(4, "first not [not row (row |((1))) = 1]");
        BentRiver x = Check.river(TEXT);
        answer(x, "least row row row row row row 0", 3);
        // row is open until its PART ends, and no longer
        answer(x, "least row row row row row row 0 - row row row row row row 0", 0);
        answer(x, "least row row row row row(0) + row row row row row(0)", Check.ask(x, "least 2*row row row row row 0"));
        answer(x, "first not row row row row(0) = 9 and not not not not not not all", 0);
    }

    private static void withoutValley() {
        BentRiver x = new BentRiver();
        Check.due("a valley with a fault", Check.valley(x, "valley 2"), -1);
        Check.due("ask", Check.ask(x, "often all"), BentRiver.NOTHING);
        Check.due("nothing else is done", x.fault(0), 2);
        Check.due("nothing else is done", x.fault(1), 7);
        Check.due("the tape went", x.end(1), false);
    }
}
