/** Promises 4, 5: texts of valleys and their FAULTS. */
public final class FaultsTest {
    private static final String HEAD = "valley 4 by 3 reach 2;";

    public static void main(String[] args) {
        good();
        size();
        statements();
        lords();
        expressions();
        depth();
        tooMany();
        staying();
        again();
        wholeTape();
        Check.finish();
    }

    private static void accepted(String text, int statements) {
        BentRiver x = new BentRiver();
        Check.due("valley " + text, Check.valley(x, text), statements);
        Check.due("fault(0) of " + text, x.fault(0), 0);
        Check.due("fault(1) of " + text, x.fault(1), -1);
        Check.due("status(1)", x.status(1), 0);
    }

    /** The FAULT's place is marked by | in the text. */
    private static void faulty(int kind, String marked) {
        int place = marked.indexOf('|');
        String text = marked.substring(0, place) + marked.substring(place + 1);
        BentRiver x = new BentRiver();
        Check.due("valley " + marked, Check.valley(x, text), -1);
        Check.due("fault(0) of " + marked, x.fault(0), kind);
        Check.due("fault(1) of " + marked, x.fault(1), place);
        Check.due("status(1)", x.status(1), 1);
        Check.due("has(0)", x.has(0), 0);
        Check.due("the tape went", x.end(1), false);
    }

    private static void inHead(int kind, String marked) {
        faulty(kind, HEAD + marked);
    }

    private static void good() {
        accepted("valley 3 by 2 reach 1;", 1);
        accepted(" \n valley\n10  by 8 reach 7 ; \n", 1);
        accepted("valley 0003 by 02 reach 1;", 1);
        accepted(HEAD + "runs 0 2;soil 3 2 9;willow 0 0;spate 100;eats 1;bend all;", 7);
        accepted(HEAD + "lord first from 0 to 3 pays 99 joy 99 purse 999;lord last from 1 to 1 pays 0 joy 0 purse 0;", 3);
        accepted(HEAD + "eats pay+turn-soil-roots*ever/column+row-season;", 2);
        accepted(HEAD + "bend before<behind or row>turn and not season=column;", 2);
        accepted(HEAD + "bend[turn>0]or not[all];eats(min(1,2))+max( 3 , 4 );", 3);
        accepted(HEAD + "bend not not not not not not all;", 2);
        accepted(HEAD + "bend not all and not all or not all or [all] and [all] and (1)=(2);", 2);
        Check.due("another what", new BentRiver().fault(2), -1);
        Check.due("another what", new BentRiver().fault(-1), -1);
        Check.due("fault(0) ahead of any", new BentRiver().fault(0), 0);
        Check.due("fault(1) ahead of any", new BentRiver().fault(1), -1);
    }

    private static void size() {
        faulty(1, "|");
        faulty(1, "   \n |");
        faulty(1, "|;");
        faulty(1, "|runs 0 0;");
        faulty(1, "|valle");
        faulty(1, "|valleys 3 by 3 reach 1;");
        faulty(1, "|Valley 3 by 3 reach 1;");
        faulty(1, "|xalley 3 by 3 reach 1;");
        faulty(1, "|3 by 3 reach 1;");
        faulty(1, "valley 3 |3 reach 1;");
        faulty(1, "valley 3 by 3 |1;");
        faulty(1, "valley|");
        faulty(1, "valley|3 by 3 reach 1;");
        faulty(1, "valley  |by 3 by 3 reach 1;");
        faulty(1, "valley 3|by 3 reach 1;");
        faulty(1, "valley 3 |to 3 reach 1;");
        faulty(1, "valley 3 by 3 reach 1|");
        faulty(1, "valley 3 by 3 reach 1  |");
        faulty(1, "valley 3 by 3 reach 1 |1;");
        faulty(1, "valley 3 by 3 reach 1|,");
        faulty(1, "valley 3 by 3 reach |-1;");
        faulty(1, "valley 3|\tby 3 reach 1;");
        faulty(1, "valley 3|" + (char) 233 + " by 3 reach 1;");
        faulty(1, "valley 0000|3 by 3 reach 1;");
        faulty(1, "valley 9999|9 by 3 reach 1;");
        faulty(2, "valley |9999 by 3 reach 1;");
        faulty(2, "valley |2by 3 reach 1;");
        faulty(2, "valley |11 by 3 reach 1;");
        faulty(2, "valley 3 by |1 reach 1;");
        faulty(2, "valley 3 by |9 reach 1;");
        faulty(2, "valley 3 by 3 reach |0;");
        faulty(2, "valley 3 by 3 reach |8;");
    }

    private static void statements() {
        inHead(1, "|valley 3 by 3 reach 1;");
        inHead(1, "|;");
        inHead(1, "|x 1;");
        inHead(1, "|first;");
        inHead(1, "|run 1 1;");
        inHead(1, "|3;");
        inHead(1, "runs|1 1;");
        inHead(1, "runs 1 1|runs 1 1;");
        inHead(1, "runs 1|;");
        inHead(1, "runs 1 1 |1;");
        inHead(1, "runs 1 1;soil 1 1|;");
        inHead(2, "runs |4 0;");
        inHead(2, "runs 3 |3;");
        inHead(2, "soil |4 0 0;");
        inHead(2, "soil 0 |3 0;");
        inHead(2, "soil 0 0 |10;");
        inHead(2, "willow |4 0;");
        inHead(2, "willow 0 |3;");
        inHead(2, "spate |101;");
        inHead(1, "spate|;");
        String nine = "willow 2 1;".repeat(9);
        accepted(HEAD + nine + "willow 1 2;", 11);
        inHead(2, nine + "willow 2 |1;");
        inHead(2, nine + "willow 2 |1 x");
        inHead(2, nine + "willow 2 |3;");
        inHead(2, nine + "willow |9 1;");
    }

    private static void lords() {
        String end = " from 0 to 3 pays 1 joy 1 purse 1;";
        inHead(1, "lord |;");
        inHead(1, "lord |1;");
        inHead(1, "lord |from from 0 to 3 pays 1 joy 1 purse 1;");
        for (String own : ("valley by reach runs soil willow lord from to pays joy purse eats bend spate column row turn "
            + "season roots pay ever before behind number offers bends or and not all min max").split(" ")) {
            inHead(1, "lord |" + own + end);
        }
        for (String free : "first last often total most least a zzzzzz valle ally".split(" ")) {
            accepted(HEAD + "lord " + free + end, 2);
        }
        inHead(1, "lord abcdef|g" + end);
        inHead(1, "lord valley|s" + end);
        inHead(1, "lord ab|1" + end);
        inHead(1, "lord ab|C" + end);
        inHead(1, "lord ab |to 0 to 3 pays 1 joy 1 purse 1;");
        inHead(1, "lord ab |0 to 3 pays 1 joy 1 purse 1;");
        inHead(1, "lord ab from 0 |3 pays 1 joy 1 purse 1;");
        inHead(1, "lord ab from 0 to 3 |1 joy 1 purse 1;");
        inHead(1, "lord ab from 0 to 3 pays 1 |1 purse 1;");
        inHead(1, "lord ab from 0 to 3 pays 1 joy 1 |1;");
        inHead(2, "lord ab from |4 to 3 pays 1 joy 1 purse 1;");
        inHead(2, "lord ab from 2 to |1 pays 1 joy 1 purse 1;");
        inHead(2, "lord ab from 2 to |4 pays 1 joy 1 purse 1;");
        inHead(2, "lord ab from 2 to 2 pays |100 joy 1 purse 1;");
        inHead(2, "lord ab from 2 to 2 pays 99 joy |100 purse 1;");
        inHead(2, "lord ab from 2 to 2 pays 99 joy 99 purse |1000;");
        inHead(1, "lord ab from 2 to 2 pays 99 joy 99|;");
        inHead(1, "lord ab from 2 to 2 |joy");
        inHead(3, "lord ab" + end + "lord |ab" + end);
        inHead(3, "lord ab" + end + "lord abc" + end + "lord b" + end + "lord |abc");
        inHead(1, "lord abcdef" + end + "lord abcdef|g" + end);
    }

    private static void expressions() {
        inHead(1, "eats|;");
        inHead(1, "eats|");
        inHead(1, "eats 1 |1");
        inHead(1, "eats|1;");
        inHead(1, "eats 1 +|;");
        inHead(1, "eats 1 |< 2;");
        inHead(1, "eats |-1;");
        inHead(1, "eats |before;");
        inHead(1, "eats |behind;");
        inHead(1, "eats |number;");
        inHead(1, "eats |nothing;");
        inHead(1, "eats |all;");
        inHead(1, "eats |not 1;");
        inHead(1, "eats 1234|5;");
        inHead(1, "eats 12|turn;");
        inHead(1, "eats turn|12;");
        inHead(1, "eats 1*(2+3|;");
        inHead(1, "eats 1*(2+3 |> 1);");
        inHead(1, "eats min|;");
        inHead(1, "eats min(1|);");
        inHead(1, "eats max(1,|);");
        inHead(1, "eats max(1,2|,3);");
        inHead(1, "eats |[1];");
        inHead(1, "eats row |1;");
        inHead(1, "bend turn|;");
        inHead(1, "bend turn |and 1 = 1;");
        inHead(1, "bend turn > |> 1;");
        inHead(1, "bend turn > 1 |> 1;");
        inHead(1, "bend turn > 1 or|;");
        inHead(1, "bend turn > 1 and |or 1 = 1;");
        inHead(1, "bend |soil > 1;");
        inHead(1, "bend |roots > 1;");
        inHead(1, "bend |pay > 1;");
        inHead(1, "bend |ever > 1;");
        inHead(1, "bend |offers > 1;");
        inHead(1, "bend [turn > 1|;");
        inHead(1, "bend [turn|];");
        inHead(1, "bend (turn |> 1);");
        inHead(1, "bend all |> 1;");
        inHead(1, "bend not|;");
        inHead(1, "bend 1 = 1|and 1 = 1;");
        inHead(1, "bend 1 = 1 |xor all;");
    }

    private static void depth() {
        accepted(HEAD + "eats ((((((1))))));", 2);
        inHead(4, "eats ((((((|(1)))))));");
        inHead(4, "eats ((((((|(;");
        inHead(4, "eats ((((((min|(1,2)))))));");
        accepted(HEAD + "eats (((((min(1,2))))))+((((((1))))));", 2);
        accepted(HEAD + "eats min(min(min(min(min(min(1,2),2),2),2),2),2);", 2);
        inHead(4, "eats min(1,min(1,min(1,min(1,min(1,min(1,|(1)))))));");
        inHead(4, "eats min(min(min(min(min(min(|(1),2),2),2),2),2),2);");
        inHead(1, "eats ((((((min |1,2))))));");
        accepted(HEAD + "bend [not[not[(1)=1]]];", 2);
        accepted(HEAD + "bend [not[not[(1)=(1)]]] or not [not [not [all]]];", 2);
        inHead(4, "bend not not not not not not |not all;");
        inHead(4, "bend not not not not not not |[all];");
        inHead(4, "bend [[[[[[|[all]]]]]]];");
        inHead(4, "bend [not [not [not |(1) = 1]]];");
        // a not is open until its FACT ends, and no longer
        accepted(HEAD + "bend not not not not not (1) = (1) and not not not not not not all;", 2);
        inHead(4, "bend not not not not not (|(1)=1);");
    }

    private static void tooMany() {
        inHead(5, "eats 1;|eats 1;");
        inHead(5, "bend all;eats 1;|bend x");
        inHead(5, "eats 1;|eats");
        inHead(1, "eats 1;|eatsx");
        StringBuilder five = new StringBuilder();
        for (char name = 'a'; name < 'f'; name++) {
            five.append("lord ").append(name).append(" from 0 to 0 pays 1 joy 1 purse 1;");
        }
        accepted(HEAD + five, 6);
        inHead(5, five + "  |lord a");
        inHead(1, five + "  |lords a");
        String eighty = HEAD + "spate 7;".repeat(79);
        accepted(eighty, 80);
        accepted(eighty + " \n ", 80);
        faulty(5, eighty + " |spate 7;");
        faulty(5, eighty + "|;");
        faulty(5, eighty + " |?");
    }

    private static void staying() {
        BentRiver x = Check.river(HEAD + "runs 1 2;lord a from 0 to 3 pays 1 joy 1 purse 9;spate 40;");
        x.plant(0, 0);
        x.seasons(3);
        Check.feed(x, 0, 1, 1);
        x.see();
        String told = Check.told(x);
        Check.due("a faulty valley", Check.valley(x, "valley 3 by 2 reach 1;runs 0 1;lord b"), -1);
        Check.due("fault(0)", x.fault(0), 1);
        Check.due("fault(1)", x.fault(1), 37);
        Check.due("all stays", told.equals(Check.told(x)), true);
        Check.due("its name stays", x.letter(0, 0), 1);
        Check.due("undo still can", x.undo(), true);
        x.chance(3);
        x.later(0, 2);
        x.seed(7);
        Check.due("a valley once more", Check.valley(x, "valley 3 by 2 reach 1;eats 1;bend all;spate 9;"), 4);
        x.seasons(5);
        Check.due("a new valley", Check.valley(x, "valley 3 by 2 reach 1;spate 50;"), 2);
        Check.due("as at first", Check.told(x).startsWith("3 2 0 0 0 0 0 0 0 0 0 0 0 0 0 0 "), true);
        Check.due("none can be undone", x.undo(), false);
        // the seed stays: a new object with that seed goes on alike
        BentRiver y = Check.river("valley 3 by 2 reach 1;spate 50;");
        y.seed(7);
        Check.due("chance", x.chance(60), y.chance(60));
        Check.due("alike", Check.told(x).equals(Check.told(y)), true);
    }

    /** Nothing of one valley is left in the next one but one, which is read into the same place. */
    private static void again() {
        BentRiver x = Check.river(HEAD + "runs 0 2;runs 1 1;soil 1 1 1;willow 2 2;eats 3;bend all;spate 100;"
            + "lord a from 0 to 3 pays 1 joy 1 purse 9;");
        x.seasons(2);
        String plain = "valley 4 by 3 reach 2;";
        Check.valley(x, plain);
        Check.valley(x, plain);
        Check.due("as a new one", Check.told(x).equals(Check.told(Check.river(plain))), true);
        Check.due("soil", x.cell(1, 1, 0), 5);
        Check.due("eats", x.eats(1, 1), -5);
        Check.due("purses", x.sums(0, 2), 0);
        for (int i = 0; i < 9; i++) {
            Check.due("no spate", x.chance(100), 0);
        }
        Check.due("eats and bend can be told", Check.valley(x, HEAD + "eats 3;bend all;"), 3);
        Check.due("and once more", Check.valley(x, HEAD + "eats 3;bend all;"), 3);
        Check.due("and once more", Check.valley(x, HEAD + "eats 3;bend all;"), 3);
    }

    private static void wholeTape() {
        accepted(HEAD + " ".repeat(1600 - HEAD.length()), 1);
        faulty(1, HEAD + "|" + "x".repeat(1600 - HEAD.length()));
        faulty(1, HEAD + "|" + "7".repeat(1600 - HEAD.length()));
        faulty(1, HEAD + " ".repeat(1595 - HEAD.length()) + "eats |");
        String sum = "1+".repeat(785) + "1;";
        accepted(HEAD + "eats " + " ".repeat(1600 - 5 - HEAD.length() - sum.length()) + sum, 2);
        Check.due("a long SUM", Check.river(HEAD + "eats " + sum).eats(0, 0), 786);
    }
}
