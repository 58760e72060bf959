/** The boundary cases that Term I names: what a VALLEY's text may be, and its FAULTS. */
public final class EdgesOfTextsTest {
    private static final String HEAD = "valley 4 by 3 reach 2;";
    private static final String LORD = " from 0 to 3 pays 1 joy 1 purse 1;";
    private static final String OWN_WORDS = "valley, by, reach, runs, soil, willow, lord, from, to, pays, joy, purse, eats, bend, "
        + "spate, column, row, turn, season, roots, pay, ever, before, behind, number, offers, bends, or, and, not, all, min, max";

    public static void main(String[] args) {
        statements();
        size();
        placesInIt();
        lords();
        oneEach();
        numbersOfSums();
        wordsOfSums();
        names();
        blanks();
        firstFaults();
        otherFaults();
        depth();
        Check.finish();
    }

    private static BentRiver river(String text) {
        return Check.river(HEAD + text);
    }

    private static void statements() {
        String eighty = HEAD + "spate 7;".repeat(79);
        Edges.edge("A VALLEY is a text: { STATEMENT ; } (80 at most)", () -> {
            Edges.accepted(HEAD, 1);
            Edges.accepted(eighty.substring(0, eighty.length() - 8), 79);
            Edges.accepted(eighty, 80);
            Edges.faulty(5, eighty + "|spate 7;");
            Edges.faulty(1, HEAD + "|;");
            Edges.faulty(1, HEAD + "spate 7|");
        });
        Edges.edge("an 81st STATEMENT (whatever stands there), at its first byte", () -> {
            Edges.faulty(5, eighty + " \n|valley 3 by 2 reach 1;");
            Edges.faulty(5, eighty + "|;");
            Edges.faulty(5, eighty + "|x");
            Edges.faulty(5, eighty + " |12345");
            Edges.faulty(5, eighty + "|" + (char) 0);
            Edges.faulty(5, eighty + "|" + (char) 255);
            Edges.accepted(eighty + " \n \n", 80);
        });
        Edges.edge("the first STATEMENT, and it alone", () -> {
            Edges.faulty(1, "|runs 0 0;" + HEAD);
            Edges.faulty(1, "|spate 1;");
            Edges.faulty(1, HEAD + "|valley 4 by 3 reach 2;");
            Edges.faulty(1, HEAD + "spate 1;|valley 4 by 3 reach 2;");
        });
    }

    private static void size() {
        Edges.edge("3 .. 10 columns", () -> {
            Check.due("columns", Check.river("valley 3 by 2 reach 1;").has(0), 3);
            Check.due("columns", Check.river("valley 10 by 2 reach 1;").has(0), 10);
            Edges.faulty(2, "valley |2 by 2 reach 1;");
            Edges.faulty(2, "valley |11 by 2 reach 1;");
            Edges.faulty(2, "valley |0 by 2 reach 1;");
            Edges.faulty(2, "valley |9999 by 2 reach 1;");
        });
        Edges.edge("2 .. 8 rows", () -> {
            Check.due("rows", Check.river("valley 3 by 2 reach 1;").has(1), 2);
            Check.due("rows", Check.river("valley 3 by 8 reach 1;").has(1), 8);
            Edges.faulty(2, "valley 3 by |1 reach 1;");
            Edges.faulty(2, "valley 3 by |9 reach 1;");
            Edges.faulty(2, "valley 3 by |0 reach 1;");
        });
        Edges.edge("valley N by N reach N (3 .. 10 columns, 2 .. 8 rows, 1 .. 7;", () -> {
            Edges.accepted("valley 3 by 2 reach 1;", 1);
            Edges.accepted("valley 3 by 2 reach 7;", 1);
            Edges.faulty(2, "valley 3 by 2 reach |0;");
            Edges.faulty(2, "valley 3 by 2 reach |8;");
        });
    }

    private static void placesInIt() {
        Edges.edge("runs N N (a column, a row from 0 on;", () -> {
            Edges.rows("runs", river("runs 0 2;runs 3 1;"), 2, 0, 0, 1);
            Edges.faulty(2, HEAD + "runs |4 0;");
            Edges.faulty(2, HEAD + "runs 3 |3;");
        });
        Edges.edge("the last one of a column counts, 0 without", () -> {
            Edges.rows("runs", river("runs 1 2;runs 2 2;runs 1 1;"), 0, 1, 2, 0);
            Edges.rows("runs", river("runs 1 2;runs 1 0;"), 0, 0, 0, 0);
        });
        Edges.edge("soil N N N ... 0 .. 9, the last one of a CELL counts, 5 without", () -> {
            BentRiver x = river("soil 0 0 0;soil 3 2 9;soil 1 1 9;soil 1 1 4;");
            Check.due("soil 0", x.cell(0, 0, 0), 0);
            Check.due("soil 9", x.cell(3, 2, 0), 9);
            Check.due("the last one", x.cell(1, 1, 0), 4);
            Check.due("without", x.cell(1, 2, 0), 5);
            Edges.faulty(2, HEAD + "soil 0 0 |10;");
            Edges.faulty(2, HEAD + "soil |4 0 0;");
            Edges.faulty(2, HEAD + "soil 0 |3 0;");
        });
        Edges.edge("willow N N (a column, a row; ... one willow more, 9 at most)", () -> {
            BentRiver x = river("willow 3 2;".repeat(9) + "willow 0 0;");
            Check.due("nine", x.cell(3, 2, 1), 9);
            Check.due("one", x.cell(0, 0, 1), 1);
            Check.due("none", x.cell(0, 1, 1), 0);
            Edges.faulty(2, HEAD + "willow |4 0;");
            Edges.faulty(2, HEAD + "willow 0 |3;");
        });
        Edges.edge("2 a number that can't be (of a willow that is one too many the row), at it", () -> {
            Edges.faulty(2, HEAD + "willow 3 2;".repeat(9) + "willow 3 |2;");
            Edges.faulty(2, HEAD + "willow 3 2;".repeat(9) + "willow 0 0;willow 3\n |2");
            Edges.accepted(HEAD + "willow 3 2;".repeat(9) + "willow 2 2;willow 3 1;", 12);
        });
        Edges.edge("spate N (0 .. 100; the last one counts, 0 without)", () -> {
            Edges.accepted(HEAD + "spate 0;", 2);
            Edges.faulty(2, HEAD + "spate |101;");
            Check.due("100: each time", river("spate 0;spate 100;").chance(100), 100);
            Check.due("the last one", river("spate 100;spate 0;").chance(100), 0);
            Check.due("without", river("").chance(100), 0);
        });
    }

    private static void lords() {
        Edges.edge("(columns, the second no less;", () -> {
            BentRiver x = river("lord a from 0 to 3 pays 1 joy 1 purse 1;lord b from 3 to 3 pays 1 joy 1 purse 1;"
                + "lord c from 0 to 0 pays 1 joy 1 purse 1;");
            Check.due("from", x.lord(1, 0), 3);
            Check.due("to", x.lord(1, 1), 3);
            Edges.faulty(2, HEAD + "lord a from |4 to 4 pays 1 joy 1 purse 1;");
            Edges.faulty(2, HEAD + "lord a from 3 to |4 pays 1 joy 1 purse 1;");
            Edges.faulty(2, HEAD + "lord a from 1 to |0 pays 1 joy 1 purse 1;");
            Edges.faulty(2, HEAD + "lord a from 3 to |2 pays 1 joy 1 purse 1;");
        });
        Edges.edge("lord NAME from N to N pays N joy N purse N (columns, the second no less; 0 .. 99; 0 .. 99; 0 .. 999;", () -> {
            BentRiver x = river("lord a from 0 to 3 pays 0 joy 0 purse 0;lord b from 0 to 3 pays 99 joy 99 purse 999;");
            for (int what = 2; what <= 4; what++) {
                Check.due("the least", x.lord(0, what), 0);
                Check.due("the most", x.lord(1, what), what == 4 ? 999 : 99);
            }
            Edges.faulty(2, HEAD + "lord a from 0 to 3 pays |100 joy 0 purse 0;");
            Edges.faulty(2, HEAD + "lord a from 0 to 3 pays 0 joy |100 purse 0;");
            Edges.faulty(2, HEAD + "lord a from 0 to 3 pays 0 joy 0 purse |1000;");
        });
        Edges.edge("5 LORDS)", () -> {
            String five = "lord a" + LORD + "lord b" + LORD + "lord c" + LORD + "lord d" + LORD + "lord e" + LORD;
            Check.due("lords", river(five).has(2), 5);
            Edges.faulty(5, HEAD + five + "|lord f" + LORD);
            Edges.faulty(5, HEAD + five + " \n|lord a");
        });
    }

    private static void oneEach() {
        Edges.edge("eats SUM, bend TEST (one each)", () -> {
            Edges.accepted(HEAD + "eats 1;bend all;", 3);
            Edges.faulty(5, HEAD + "eats 1;bend all;|eats 1;");
            Edges.faulty(5, HEAD + "bend all;eats 1;|bend all;");
        });
        Edges.edge("5 one too many of a kind (a second eats, bend, too)", () -> {
            Edges.faulty(5, HEAD + "eats 1; |eats");
            Edges.faulty(5, HEAD + "bend all; |bend ?");
            Edges.faulty(5, HEAD + "eats 1;spate 2;|eats 12345;");
        });
        Edges.edge("Without: eats is pay+turn-soil-roots, bend is turn > 0.", () -> {
            BentRiver x = river("runs 1 2;soil 1 1 3;willow 1 1;willow 1 1;lord a from 1 to 1 pays 7 joy 0 purse 9;");
            Check.due("eats", x.eats(1, 1), 7 + 4 - 3 - 2);
            Check.due("eats", x.eats(3, 0), -5);
            Check.due("turn 0", x.column(0, 2), 0);
            Check.due("turn 4", x.column(1, 2), 1);
            Check.due("turn 2", x.column(2, 2), 1);
            Check.due("turn 1 is above 0", river("runs 1 1;runs 2 1;").column(1, 2), 1);
            Check.due("turn 0 is not", river("runs 1 1;runs 2 2;").column(1, 2), 0);
        });
    }

    private static void value(String sum, long due) {
        Check.due(sum, Check.river("valley 3 by 2 reach 1;eats " + sum + ";").eats(0, 0), due);
    }

    private static void holds(String test, boolean due) {
        Check.due(test, Check.river("valley 3 by 2 reach 1;bend " + test + ";").column(0, 2) == 1, due);
    }

    private static void numbersOfSums() {
        Edges.edge("N (1 to 4 digits)", () -> {
            value("0", 0);
            value("9999", 9999);
            value("0000", 0);
            value("0012", 12);
            Edges.faulty(1, HEAD + "eats 0000|0;");
            Edges.faulty(1, HEAD + "eats |;");
        });
        Edges.edge("All from the left on;", () -> {
            value("9-4-3", 2);
            value("9-4+3", 8);
            value("80/4/5", 4);
            value("7/2*2", 6);
            value("1000*1000*2/2", 500000);
            value("1000*1000+1000-1000", 999000);
        });
        Edges.edge("/ gives the greatest whole number not above", () -> {
            value("7/2", 3);
            value("8/2", 4);
            value("1/2", 0);
            value("(0-1)/2", -1);
            value("(0-7)/2", -4);
            value("(0-8)/2", -4);
            value("7/(0-2)", -4);
            value("(0-7)/(0-2)", 3);
            value("1/(0-9999)", -1);
            value("(0-1)/(0-9999)", 0);
            value("(0-1000*1000)/(0-1)", 1000000);
            value("1000*1000/(0-1)", -1000000);
        });
        Edges.edge("by 0 it gives 0", () -> {
            value("7/0", 0);
            value("0/0", 0);
            value("(0-7)/0", 0);
            value("5+7/(3-3)", 5);
        });
        Edges.edge("min ( SUM , SUM ) ; max ( SUM , SUM )", () -> {
            value("min(2,3)*10+max(2,3)", 23);
            value("min(3,2)*10+max(3,2)", 23);
            value("min(2,2)*10+max(2,2)", 22);
            value("min(0-1,0)*10+max(0-1,0)", -10);
            value("max(0-9999*9999,0-9999*9999+1)", -999999);
        });
        Edges.edge("TEST: BOTH { or BOTH }. BOTH: FACT { and FACT }. FACT: not FACT; [ TEST ] ; all; SUM SIGN SUM, SIGN < or > or = .",
            () -> {
                holds("all", true);
                holds("not all", false);
                holds("1<2", true);
                holds("2<2", false);
                holds("2>1", true);
                holds("2>2", false);
                holds("2=2", true);
                holds("2=1", false);
                holds("not 1<2", false);
                holds("all or all and not all", true);
                holds("[all or all] and not all", false);
                holds("not all and all", false);
                holds("not [not all and all]", true);
                holds("not all or not all or all", true);
                holds("all and all and not all", false);
                holds("1+1=2*1", true);
            });
        Edges.edge("each sum, difference, product above 10 to the 6 is that", () -> {
            value("1000*1000", 1000000);
            value("1000*1000+1", 1000000);
            value("1000*1000-1+1+1", 1000000);
            value("1000*1001", 1000000);
            value("9999*9999*9999", 1000000);
            value("1000*999+1000", 1000000);
            value("1000*999+999", 999999);
            value("1000*1000-(0-1)", 1000000);
            value("9999*9999-1", 999999);
        });
        Edges.edge("below -10 to the 6 likewise", () -> {
            value("0-1000*1000", -1000000);
            value("0-1000*1000-1", -1000000);
            value("0-1000*1000-1+1", -999999);
            value("(0-1000)*1001", -1000000);
            value("(0-9999)*9999*9999", -1000000);
            value("0-1000*1000+(0-1)", -1000000);
            value("0-1000*999-999", -999999);
        });
    }

    private static void wordsOfSums() {
        String zigzag = "valley 4 by 8 reach 7;runs 0 7;runs 1 0;runs 2 6;runs 3 1;";
        Edges.edge("without a sign, 0 in the first and the last column", () -> {
            BentRiver x = Check.river(zigzag);
            int[] due = {0, 13, 11, 0};
            for (int c = 0; c < 4; c++) {
                Check.due("turn of " + c, x.column(c, 1), due[c]);
            }
        });
        Edges.edge("in eats that of the CELL", () -> {
            BentRiver x = Check.river(zigzag + "eats row*100+turn;");
            Check.due("row of the CELL, turn of the river", x.eats(1, 5), 513);
            Check.due("row of the CELL, turn of the river", x.eats(1, 0), 13);
            Check.due("in the first column", x.eats(0, 3), 300);
            Check.due("in the last column", x.eats(3, 3), 300);
        });
        Edges.edge("the row in the column less by one, more by one, in the first, the last one the row itself", () -> {
            BentRiver before = Check.river(zigzag + "bend before=7;");
            BentRiver behind = Check.river(zigzag + "bend behind=1;");
            int[] dueBefore = {1, 1, 0, 0};
            int[] dueBehind = {0, 0, 1, 1};
            for (int c = 0; c < 4; c++) {
                Check.due("before " + c, before.column(c, 2), dueBefore[c]);
                Check.due("behind " + c, behind.column(c, 2), dueBehind[c]);
            }
        });
        Edges.edge("what all LORDS of the column offer for a bend together", () -> {
            BentRiver x = Check.river("valley 4 by 2 reach 1;eats pay;lord a from 1 to 2 pays 99 joy 0 purse 99;"
                + "lord b from 2 to 3 pays 3 joy 0 purse 3;lord c from 2 to 2 pays 5 joy 0 purse 4;");
            int[] due = {0, 99, 102, 3};
            for (int c = 0; c < 4; c++) {
                Check.due("pay of " + c, x.eats(c, 1), due[c]);
            }
        });
        Edges.edge("how often the river ran in that CELL as a SEASON ended", () -> {
            BentRiver x = Check.river("valley 3 by 2 reach 1;eats ever+1-season*9;");
            Check.due("not yet", x.eats(1, 0), 1);
            x.seasons(1);
            Check.due("where it went", x.eats(1, 1) + 9, 2);
            Check.due("where it had been", x.eats(1, 0) + 9, 1);
        });
        Edges.edge("in eats: soil; roots; pay; ever; in bend: before; behind.", () -> {
            for (String word : "soil roots pay ever".split(" ")) {
                Edges.accepted(HEAD + "eats " + word + ";", 2);
                Edges.faulty(1, HEAD + "bend |" + word + "=0;");
            }
            for (String word : "before behind".split(" ")) {
                Edges.accepted(HEAD + "bend " + word + "=0;", 2);
                Edges.faulty(1, HEAD + "eats |" + word + ";");
            }
            for (String word : "column row turn season".split(" ")) {
                Edges.accepted(HEAD + "eats " + word + ";bend " + word + "=0;", 3);
            }
            // every word that means something elsewhere, tried where it means nothing
            String others = "valley by reach runs willow lord from to pays joy purse eats bend spate number offers bends or and "
                + "first last often total most least x";
            for (String word : others.split(" ")) {
                Edges.faulty(1, HEAD + "eats |" + word + ";");
                Edges.faulty(1, HEAD + "eats 1+|" + word + ";");
                Edges.faulty(1, HEAD + "bend |" + word + "=0;");
                Edges.faulty(1, HEAD + "bend 0=|" + word + ";");
            }
            Edges.faulty(1, HEAD + "eats |all;");
            Edges.faulty(1, HEAD + "eats |not 1;");
            Edges.faulty(1, HEAD + "bend 0=|all;");
            Edges.faulty(1, HEAD + "bend 0=|not 1=1;");
        });
    }

    private static void names() {
        Edges.edge("NAMES: 1 to 6 letters, no OWN WORD, unlike ones.", () -> {
            Edges.accepted(HEAD + "lord a" + LORD + "lord zzzzzz" + LORD + "lord zzzzz" + LORD, 4);
            Edges.faulty(1, HEAD + "lord |;");
            Edges.faulty(1, HEAD + "lord |7" + LORD);
            Edges.faulty(1, HEAD + "lord |A" + LORD);
            Edges.faulty(1, HEAD + "lord zzzzzz|z" + LORD);
            Edges.accepted(HEAD + "lord first" + LORD + "lord last" + LORD + "lord often" + LORD + "lord total" + LORD, 5);
            Edges.accepted(HEAD + "lord most" + LORD + "lord least" + LORD, 3);
        });
        Edges.edge("OWN WORDS: " + OWN_WORDS, () -> {
            for (String own : OWN_WORDS.split(", ")) {
                Edges.faulty(1, HEAD + "lord |" + own + LORD);
                // neither what is longer nor what is shorter is one
                String longer = own + "q";
                if (longer.length() <= 6) {
                    Edges.accepted(HEAD + "lord " + longer + LORD, 2);
                }
                Edges.accepted(HEAD + "lord q" + own.substring(1) + LORD, 2);
            }
        });
        Edges.edge("where a NAME is asked, an OWN WORD so, a 7th letter at itself;", () -> {
            Edges.faulty(1, HEAD + "lord |valley" + LORD);
            Edges.faulty(1, HEAD + "lord valley|s" + LORD);
            Edges.faulty(1, HEAD + "lord abcdef|ghijkl" + LORD);
            Edges.faulty(1, HEAD + "|lordabc" + LORD);
        });
        Edges.edge("3 a NAME that is there already, at it", () -> {
            Edges.faulty(3, HEAD + "lord ab" + LORD + "lord |ab" + LORD);
            Edges.faulty(3, HEAD + "lord abcdef" + LORD + "lord b" + LORD + "lord \n|abcdef");
            Edges.accepted(HEAD + "lord ab" + LORD + "lord abc" + LORD + "lord b" + LORD + "lord a" + LORD, 5);
            Edges.accepted(HEAD + "lord abcdef" + LORD + "lord abcdeg" + LORD, 3);
        });
    }

    private static void blanks() {
        Edges.edge("Blanks (10, 32) are where one likes", () -> {
            Edges.accepted("\n valley \n 3\nby 2 reach\n\n1 \n;\n eats ( 1 + 2 ) * min ( 3 , 4 ) ;\n bend [ all ] ; ", 3);
            Edges.accepted("valley 3 by 2 reach 1;eats(1+2)*min(3,4);bend[all];", 3);
            for (int other : new int[] {0, 9, 11, 13, 31, 33, 127, 160, 255}) {
                Edges.faulty(1, "valley|" + (char) other + "3 by 2 reach 1;");
                Edges.faulty(1, HEAD + "|" + (char) other);
            }
        });
        Edges.edge("(words and numbers side by side need one)", () -> {
            Edges.faulty(1, "valley|3 by 2 reach 1;");
            Edges.faulty(1, "valley 3|by 2 reach 1;");
            Edges.faulty(1, "valley 3 by 2 reach|1;");
            Edges.faulty(1, "|valleyx 3 by 2 reach 1;");
            Edges.faulty(1, HEAD + "eats row|1;");
            Edges.faulty(1, HEAD + "bend 1=1|or all;");
            Edges.accepted(HEAD + "bend not[all]or[all]and(1)=1;", 2);
        });
    }

    private static void firstFaults() {
        Edges.edge("FAULTS, the first along the text:", () -> {
            Edges.faulty(2, "valley |2 by 9 reach 8");
            Edges.faulty(2, "valley |2by 3 reach 1;");
            Edges.faulty(1, "valley 3 |x 9 reach 8;");
            Edges.faulty(3, HEAD + "lord a" + LORD + "lord |a from 9");
            Edges.faulty(4, HEAD + "eats ((((((|(");
            Edges.faulty(5, HEAD + "eats 1;|eats 12345;lord 7");
        });
        Edges.edge("1 the first byte with which no such text goes on (words and numbers whole, at their first byte;", () -> {
            Edges.faulty(1, "|valle 3 by 2 reach 1;");
            Edges.faulty(1, "|valleys 3 by 2 reach 1;");
            Edges.faulty(1, "valley 3 |bye 2 reach 1;");
            Edges.faulty(1, "valley 3 by 2 |1234 1;");
            Edges.faulty(1, "valley 3 by 2 |12345 1;");
            Edges.faulty(1, HEAD + "|spat 1;");
            Edges.faulty(1, HEAD + "|123456;");
            Edges.faulty(1, HEAD + "spate 1|?;");
            Edges.faulty(1, "valley |by 2 reach 1;");
            Edges.faulty(1, "valley |;3 by 2 reach 1;");
            Edges.faulty(1, HEAD + "spate |;");
            Edges.faulty(1, HEAD + "bend 1 |;");
            Edges.faulty(1, HEAD + "bend 1 |and 1=1;");
            Edges.faulty(1, HEAD + "bend 1+|;");
            Edges.faulty(1, HEAD + "eats min |1,2;");
            Edges.faulty(1, HEAD + "eats max|;");
            Edges.faulty(1, HEAD + "spate |spate;");
            Edges.faulty(1, HEAD + "bend all |nor all;");
        });
        Edges.edge("words and numbers whole, at their first byte", () -> {
            // a full tape that ends within a word, and with one
            String blanks = HEAD + " ".repeat(1600 - HEAD.length());
            for (String own : OWN_WORDS.split(", ")) {
                String half = own.substring(0, own.length() - 1);
                // bend itself would go on
                if (!half.equals("bend")) {
                    Edges.faulty(1, blanks.substring(0, 1600 - half.length()) + "|" + half);
                }
            }
            Edges.faulty(1, blanks.substring(0, 1595) + "spate|");
            Edges.faulty(1, blanks.substring(0, 1593) + "spate 7|");
            Edges.accepted(blanks.substring(0, 1592) + "spate 7;", 2);
        });
        Edges.edge("where a number is asked, a 5th digit at itself;", () -> {
            Edges.faulty(1, "valley 0003|0 by 2 reach 1;");
            Edges.faulty(1, HEAD + "runs 0000|0 0;");
            Edges.faulty(1, HEAD + "spate 0100|0;");
            Edges.faulty(1, HEAD + "lord a from 0 to 3 pays 1 joy 1 purse 0999|9;");
            Edges.faulty(1, HEAD + "eats 1+9999|9;");
            Edges.accepted("valley 0003 by 0002 reach 0001;", 1);
        });
        Edges.edge("at the text's length, if it ends too soon);", () -> {
            String whole = "valley 3 by 2 reach 1;lord a from 0 to 1 pays 2 joy 3 purse 4;eats min(1,2)+(3);bend not[all];";
            Edges.accepted(whole, 4);
            for (int length = 0; length < whole.length(); length++) {
                if (isBehindAPiece(whole, length) && whole.charAt(Math.max(length - 1, 0)) != ';') {
                    Edges.faulty(1, whole.substring(0, length) + "|");
                    Edges.faulty(1, whole.substring(0, length) + "\n |");
                }
            }
        });
    }

    /** No word or number goes on there: half of one would be a FAULT at its first byte. */
    private static boolean isBehindAPiece(String text, int length) {
        return length == 0 || !(Character.isLetterOrDigit(text.charAt(length - 1))
            && Character.isLetterOrDigit(text.charAt(length)));
    }

    private static void otherFaults() {
        Edges.edge("one without a STATEMENT has FAULT 1 at its length", () -> {
            Edges.faulty(1, "|");
            Edges.faulty(1, " |");
            Edges.faulty(1, " \n\n |");
            Edges.faulty(1, " ".repeat(1600) + "|");
        });
        Edges.edge("2 a number that can't be", () -> {
            Edges.faulty(2, "valley 3 by 2 reach |9999;");
            Edges.faulty(2, HEAD + "runs 0 |0003;");
            Edges.faulty(2, HEAD + "spate |0101");
            Edges.faulty(2, HEAD + "runs |4;");
        });
    }

    private static void depth() {
        Edges.edge("4 the 7th of ( [ not that is open at once", () -> {
            Edges.accepted(HEAD + "eats ((((((1))))));", 2);
            Edges.faulty(4, HEAD + "eats ((((((|(1)))))));");
            Edges.accepted(HEAD + "bend [[[[[[all]]]]]];", 2);
            Edges.faulty(4, HEAD + "bend [[[[[[|[all]]]]]]];");
            Edges.accepted(HEAD + "bend not not not not not not all;", 2);
            Edges.faulty(4, HEAD + "bend not not not not not not |not all;");
            Edges.accepted(HEAD + "eats min(min(min(min(min(min(1,2),2),2),2),2),2);", 2);
            Edges.faulty(4, HEAD + "eats min(1,max(1,min(1,max(1,min(1,max(1,min|(1,2)))))));");
            Edges.accepted(HEAD + "bend [not [not ((1)) = 1]];", 2);
            Edges.faulty(4, HEAD + "bend [not [not ((|(1))) = 1]];");
            Edges.faulty(4, HEAD + "bend [not [not ((max|(1,2))) = 1]];");
            Edges.faulty(4, HEAD + "eats min(min(min(min(min(min(|(1),2),2),2),2),2),2);");
            Edges.faulty(4, HEAD + "eats (((((min(|(1),2))))));");
            Edges.faulty(4, HEAD + "eats (((((max(2,|(1)))))));");
        });
        Edges.edge("4 the 7th of ( [ not that is open at once ... at it;", () -> {
            Edges.accepted(HEAD + "eats ((((((1))))))+((((((1))))))*max((((((1)))))," + "(((((1)))))" + ");", 2);
            Edges.accepted(HEAD + "bend [[[[[[all]]]]]] and [[[[[[all]]]]]] or ((((((1))))))=((((((1))))));", 2);
        });
        Edges.edge("(not until its FACT ends)", () -> {
            Edges.accepted(HEAD + "bend not not not not not not all and not not not not not not all or [[[[[[all]]]]]];", 2);
            Edges.accepted(HEAD + "bend not (((((1)))))=(((((1)))));", 2);
            Edges.faulty(4, HEAD + "bend not (((((1)))))=(((((|(1))))));");
            Edges.faulty(4, HEAD + "bend not (((((|(1))))))=1;");
            Edges.faulty(4, HEAD + "bend not [not [not [all] or not not |not all]];");
            Edges.accepted(HEAD + "bend not [not [not [all] or not not all]];", 2);
        });
    }
}
