/** The boundary cases that Term IV and promises 31 to 34 name: QUESTIONS and IMAGES. */
public final class EdgesOfQuestionsTest {
    private static final String TEXT = "valley 5 by 4 reach 3;runs 0 1;runs 1 3;runs 2 2;runs 3 3;eats 0;"
        + "lord a from 0 to 2 pays 7 joy 3 purse 20;lord b from 2 to 4 pays 5 joy 99 purse 4;"
        + "lord c from 1 to 1 pays 0 joy 0 purse 999;";
    // every word that is no PART of a QUESTION
    private static final String WRONG_PARTS = "valley by reach runs soil willow lord eats bend spate column roots pay ever before "
        + "behind or and not all first last often total most least x";
    private static final String SMALL = "valley 3 by 2 reach 1;runs 1 1;eats 0;bend all;lord a from 0 to 2 pays 2 joy 0 purse 300;";

    public static void main(String[] args) {
        kinds();
        parts();
        columns();
        faults();
        depth();
        ask();
        image();
        octets();
        largestImage();
        limitsOfImages();
        imagesOfNone();
        Check.finish();
    }

    private static void kinds() {
        BentRiver x = Check.river(TEXT);
        BentRiver none = Check.river("valley 3 by 2 reach 1;");
        Edges.edge("first TEST, last TEST (the first, the last LORD for whom it holds)", () -> {
            Edges.asked(x, "first pays>0", 0);
            Edges.asked(x, "first pays<7", 1);
            Edges.asked(x, "first pays=0", 2);
            Edges.asked(x, "last pays=0", 2);
            Edges.asked(x, "last pays>0", 1);
            Edges.asked(x, "last pays=7", 0);
        });
        Edges.edge("NONE of first, last, when its TEST holds for none", () -> {
            Edges.asked(x, "first pays=6", -1);
            Edges.asked(x, "last pays=6", -1);
            Edges.asked(none, "first all", -1);
            Edges.asked(none, "last all", -1);
        });
        Edges.edge("often TEST (for how many), total SUM (of all together)", () -> {
            Edges.asked(x, "often all", 3);
            Edges.asked(x, "often not all", 0);
            Edges.asked(none, "often all", 0);
            Edges.asked(x, "total 1", 3);
            Edges.asked(x, "total 0-pays", -12);
            Edges.asked(none, "total 1", 0);
        });
        Edges.edge("most SUM, least SUM (the greatest, the least of all; 0 without LORDS)", () -> {
            Edges.asked(x, "most 0-1-number", -1);
            Edges.asked(x, "least 1+number", 1);
            Edges.asked(x, "most number", 2);
            Edges.asked(x, "least 0-number", -2);
            Edges.asked(none, "most 5", 0);
            Edges.asked(none, "least 5", 0);
            Edges.asked(none, "most 0-5", 0);
            Edges.asked(none, "least 0-5", 0);
        });
    }

    private static void parts() {
        Edges.edge("The LORD's number, columns; 1 if he OFFERS, else 0; BENDS in his columns now", () -> {
            BentRiver x = Check.river(TEXT);
            Edges.asked(x, "least number", 0);
            Edges.asked(x, "most number", 2);
            // b has less than he pays, and OFFERS all the same
            Edges.asked(x, "often offers=1", 3);
            x.offer(1, 0);
            Edges.asked(x, "last offers=0", 1);
            Edges.asked(x, "often offers=1", 2);
            // columns 1, 2, 3 are BENDS
            Edges.asked(x, "most bends*10+number", 21);
            Edges.asked(x, "least bends*10+number", 12);
        });
        Edges.edge("PART: N; number; from; to; pays; joy; purse; offers; bends; season; row PART; turn PART;", () -> {
            BentRiver x = Check.river(TEXT);
            for (String word : WRONG_PARTS.split(" ")) {
                Edges.wronglyAsked(x, 1, "total |" + word);
                Edges.wronglyAsked(x, 1, "often 1=|" + word);
            }
            String[] words = "number from to pays joy purse offers bends season".split(" ");
            int[] totals = {3, 3, 7, 12, 102, 1023, 3, 5, 0};
            for (int i = 0; i < words.length; i++) {
                Edges.asked(x, "total " + words[i], totals[i]);
            }
            x.seasons(2);
            Edges.asked(x, "most season", 2);
            Edges.asked(x, "most purse*(1-number)", 6);
            Edges.asked(x, "least 9999", 9999);
            Edges.asked(x, "most 9999*9999", 1000000);
            Edges.asked(x, "most 1/0", 0);
            Edges.asked(x, "most (0-1)/2", -1);
        });
    }

    private static void columns() {
        Edges.edge("of the column of that number the row, how much it turns: -1 of those that there are not", () -> {
            BentRiver x = Check.river(TEXT);
            int[] rows = {1, 3, 2, 3, 0};
            int[] turns = {0, 3, 2, 4, 0};
            for (int c = 0; c < 5; c++) {
                Edges.asked(x, "most row " + c, rows[c]);
                Edges.asked(x, "most turn " + c, turns[c]);
            }
            for (String other : new String[] {"5", "10", "19", "9999", "(0-1)", "(0-9999*9999)", "(9999*9999)"}) {
                Edges.asked(x, "most row " + other, -1);
                Edges.asked(x, "least turn " + other, -1);
            }
            BentRiver ten = Check.river("valley 10 by 8 reach 7;runs 9 7;lord a from 0 to 0 pays 0 joy 0 purse 0;");
            Edges.asked(ten, "most row 9", 7);
            Edges.asked(ten, "most turn 8", 7);
            Edges.asked(ten, "most turn 9", 0);
            Edges.asked(ten, "most row 10", -1);
            Edges.asked(ten, "most turn 10", -1);
        });
    }

    private static void faults() {
        BentRiver x = Check.river(TEXT);
        Edges.edge("1 as in I (an unknown word at its first byte; what stands behind it, too)", () -> {
            Edges.wronglyAsked(x, 1, "|");
            Edges.wronglyAsked(x, 1, " \n|");
            Edges.wronglyAsked(x, 1, "|nothing all");
            Edges.wronglyAsked(x, 1, "|firsts all");
            Edges.wronglyAsked(x, 1, "|all");
            Edges.wronglyAsked(x, 1, "first |nothing");
            Edges.wronglyAsked(x, 1, "first |pay=1");
            Edges.wronglyAsked(x, 1, "first all|;");
            Edges.wronglyAsked(x, 1, "first all |first all");
            Edges.wronglyAsked(x, 1, "total 1 |2");
            Edges.wronglyAsked(x, 1, "total 1|" + (char) 255);
            Edges.wronglyAsked(x, 1, "total 1|" + (char) 0);
            Edges.wronglyAsked(x, 1, "total pays |nothing");
            Edges.asked(x, "total 1 \n ", 3);
        });
        Edges.edge("Its FAULTS: 1 as in I", () -> {
            Edges.wronglyAsked(x, 1, "total 1234|5");
            Edges.wronglyAsked(x, 1, "total|1");
            Edges.wronglyAsked(x, 1, "total 1|pays");
            Edges.wronglyAsked(x, 1, "total row|1");
            Edges.wronglyAsked(x, 1, "total (1|");
            Edges.wronglyAsked(x, 1, "total min(1|)");
            Edges.wronglyAsked(x, 1, "total |-1");
            Edges.wronglyAsked(x, 1, "first pays|");
            Edges.wronglyAsked(x, 1, "first [all|");
            Edges.wronglyAsked(x, 1, "total row |");
        });
    }

    private static void depth() {
        BentRiver x = Check.river(TEXT);
        Edges.edge("4 the 7th of ( [ not row turn that is open at once", () -> {
            Edges.asked(x, "least ((((((1))))))", 1);
            Edges.wronglyAsked(x, 4, "least ((((((|(1)))))))");
            Edges.asked(x, "often [[[[[[all]]]]]]", 3);
            Edges.wronglyAsked(x, 4, "often [[[[[[|[all]]]]]]]");
            Edges.asked(x, "often not not not not not not all", 3);
            Edges.wronglyAsked(x, 4, "often not not not not not not |not all");
            Edges.asked(x, "least row row row row row row 0", 3);
            Edges.wronglyAsked(x, 4, "least row row row row row row |row 0");
            Edges.asked(x, "least turn turn turn turn turn turn 0", 0);
            Edges.wronglyAsked(x, 4, "least turn turn turn turn turn turn |turn 0");
            Edges.wronglyAsked(x, 4, "first not [not row (turn |(1)) = 1]");
            Edges.wronglyAsked(x, 4, "first not [not row (turn |row 1) = 1]");
            Edges.wronglyAsked(x, 4, "first [not [not row row min|(1,2) = 1]]");
            Edges.wronglyAsked(x, 4, "first [[[[[[|not all]]]]]]");
        });
        Edges.edge("(not until its FACT, row, turn until its PART ends), at it", () -> {
            Edges.asked(x, "least row row row row row row 0-row row row row row row 0", 0);
            Edges.asked(x, "least turn(((((0)))))", 0);
            Edges.asked(x, "least row(((((0)))))+turn(((((0)))))*row(((((0)))))", 1);
            Edges.asked(x, "often not not not not not not all and not not not not not not all", 3);
            Edges.asked(x, "often not row row row row row 0=row row row row row 0", 0);
            Edges.wronglyAsked(x, 4, "often not row row row row row 0=row row row row row |row 0");
        });
    }

    private static void ask() {
        Edges.edge("NOTHING with a FAULT, or, doing nothing else, without a valley.", () -> {
            BentRiver x = new BentRiver();
            Check.due("without a valley", Check.ask(x, "often all"), BentRiver.NOTHING);
            Check.due("no FAULT", x.fault(0), 0);
            Check.due("with a FAULT, but without a valley", Check.ask(x, "?"), BentRiver.NOTHING);
            Check.due("no FAULT", x.fault(0), 0);
            Check.due("no place", x.fault(1), -1);
            Check.valley(x, "valley 3 by 1");
            Check.due("without a valley", Check.ask(x, "often all"), BentRiver.NOTHING);
            Check.due("the FAULT of valley() is the latest", x.fault(0), 2);
            Check.due("its place", x.fault(1), 12);
            Check.ask(x, "often all");
            Check.due("the tape went", x.end(1), false);
            BentRiver y = Check.river(TEXT);
            String told = Check.told(y);
            Edges.wronglyAsked(y, 1, "often |");
            Check.due("all stays", told.equals(Check.told(y)), true);
            for (int what = 0; what < 6; what++) {
                Check.due("none of the refused", y.status(what), 0);
            }
        });
        Edges.edge("The tape (it goes) is a QUESTION: its answer", () -> {
            BentRiver x = Check.river(TEXT);
            Edges.asked(x, "often all", 3);
            Check.due("it went", x.end(1), false);
            Edges.wronglyAsked(x, 1, "often |");
            Check.due("it went", x.end(1), false);
            Edges.asked(x, "often all" + " ".repeat(1591), 3);
        });
    }

    private static void image() {
        Edges.edge("AN IMAGE: SEASON (two bytes, the higher first), FUND (three); for each column the row; for each CELL, "
            + "column by column, its willows, how often it ran there; for each LORD 1 if he OFFERS, else 0, "
            + "his purse (two bytes)", () -> {
            BentRiver x = Check.river(SMALL + "willow 2 1;");
            for (int i = 0; i < 5; i++) {
                x.seasons(51);
            }
            x.seasons(1);
            // all 300 were paid in the first 50 seasons: SEASON 256 and FUND 300 go beyond one byte
            int[] due = {1, 0, 0, 1, 44, 0, 1, 0, 0, 99, 0, 0, 0, 0, 0, 99, 0, 99, 1, 0, 1, 0, 0};
            Check.due("bytes", x.image(), 24);
            for (int k = 0; k < due.length; k++) {
                Check.due("octet(" + k + ")", x.octet(k), due[k]);
            }
        });
        Edges.edge("last a byte: all ahead from 179 on, c = (3 c + it) mod 251.", () -> {
            Check.due("without a valley", new BentRiver().image(), 6);
            for (int i = 0; i < 300; i += 13) {
                BentRiver x = Check.river(SMALL.replace("purse 300", "purse " + i));
                int[] bytes = Check.image(x);
                Check.due("the last byte with " + i, bytes[bytes.length - 1], Check.sealed(bytes.clone())[bytes.length - 1]);
            }
            BentRiver none = new BentRiver();
            none.image();
            Check.due("of five bytes 0", none.octet(5), 179 * 3 * 3 * 3 * 3 * 3 % 251);
        });
        Edges.edge("AN IMAGE is written: how many bytes.", () -> {
            Check.due("none", new BentRiver().image(), 6);
            Check.due("the least", Check.river("valley 3 by 2 reach 1;").image(), 5 + 3 + 12 + 1);
            Check.due("one lord more", Check.river(SMALL).image(), 5 + 3 + 12 + 3 + 1);
        });
    }

    private static void octets() {
        Edges.edge("Byte k of the latest image(); NONE when there is none such.", () -> {
            BentRiver x = Check.river(SMALL);
            Check.due("ahead of any", x.octet(0), -1);
            x.image();
            x.seasons(1);
            Check.due("of the latest image()", x.octet(1), 0);
            x.image();
            Check.due("of the latest image()", x.octet(1), 1);
            Check.due("the last", x.octet(23) >= 0, true);
            Check.due("behind it", x.octet(24), -1);
            Check.due("-1", x.octet(-1), -1);
            Check.due("least", x.octet(Integer.MIN_VALUE), -1);
            Check.due("most", x.octet(Integer.MAX_VALUE), -1);
            BentRiver y = Check.river(SMALL.replace("purse 300", "purse 255"));
            y.image();
            Check.due("no byte is below 0", y.octet(22), 255);
        });
    }

    private static void largestImage() {
        Edges.edge("AN IMAGE of this VALLEY: true, all is as it tells, nothing is KEPT or can be undone", () -> {
            StringBuilder text = new StringBuilder("valley 10 by 8 reach 7;");
            for (char name = 'a'; name < 'f'; name++) {
                text.append("lord ").append(name).append(" from 0 to 9 pays 1 joy 1 purse 9;");
            }
            BentRiver x = Check.river(text.toString());
            int[] bytes = new int[191];
            bytes[0] = 3;
            bytes[1] = 231;
            bytes[2] = 15;
            bytes[3] = 66;
            bytes[4] = 63;
            java.util.Arrays.fill(bytes, 5, 15, 7);
            for (int i = 15; i < 175; i += 2) {
                bytes[i] = 9;
                bytes[i + 1] = 99;
            }
            for (int i = 175; i < 190; i += 3) {
                bytes[i] = 1;
                bytes[i + 1] = 3;
                bytes[i + 2] = 231;
            }
            x.seasons(2);
            x.later(0, 1);
            Check.due("on", Check.on(x, Check.sealed(bytes)), true);
            Check.due("SEASON", x.has(3), 999);
            Check.due("FUND", x.has(4), 999999);
            Check.due("willows", x.has(7), 720);
            Check.due("KEPT", x.has(8), 0);
            Check.due("can be undone", x.has(10), 0);
            Check.due("undo", x.undo(), false);
            Check.due("row", x.column(9, 0), 7);
            Check.due("times", x.cell(9, 7, 2), 99);
            Check.due("purse", x.lord(4, 4), 999);
            Check.due("written again", java.util.Arrays.equals(Check.image(x), bytes), true);
        });
    }

    /** The image of SMALL with bytes at places put in. */
    private static boolean onWith(BentRiver x, int... placesAndBytes) {
        int[] bytes = Check.image(Check.river(SMALL));
        for (int i = 0; i < placesAndBytes.length; i += 2) {
            bytes[placesAndBytes[i]] = placesAndBytes[i + 1];
        }
        return Check.on(x, Check.sealed(bytes));
    }

    private static void limit(String what, int[] most, int[] beyond) {
        BentRiver x = Check.river(SMALL);
        Check.due(what + " at most", onWith(x, most), true);
        Edges.refused(x, 5, what + " beyond", () -> Check.due(what + " beyond", onWith(x, beyond), false));
    }

    private static void limitsOfImages() {
        Edges.edge("when it is none (SEASON 999, FUND 999999, willows 9, how often 99, purses 999 at most; rows that there are)", () -> {
            limit("SEASON", new int[] {0, 3, 1, 231}, new int[] {0, 3, 1, 232});
            limit("SEASON of 65535", new int[] {0, 0, 1, 255}, new int[] {0, 255, 1, 255});
            limit("FUND", new int[] {2, 15, 3, 66, 4, 63}, new int[] {2, 15, 3, 66, 4, 64});
            limit("FUND of three bytes", new int[] {2, 0, 3, 255, 4, 255}, new int[] {2, 255, 3, 255, 4, 255});
            for (int c = 0; c < 3; c++) {
                limit("row of " + c, new int[] {5 + c, 1}, new int[] {5 + c, 2});
                limit("row of " + c, new int[] {5 + c, 0}, new int[] {5 + c, 255});
            }
            for (int i = 8; i < 20; i += 2) {
                limit("willows at " + i, new int[] {i, 9}, new int[] {i, 10});
                limit("how often at " + i, new int[] {i + 1, 99}, new int[] {i + 1, 100});
                limit("how often at " + i, new int[] {i + 1, 0}, new int[] {i + 1, 255});
            }
            limit("OFFERS", new int[] {20, 1}, new int[] {20, 2});
            limit("OFFERS", new int[] {20, 0}, new int[] {20, 255});
            limit("purse", new int[] {21, 3, 22, 231}, new int[] {21, 3, 22, 232});
            limit("purse of 65535", new int[] {21, 0, 22, 255}, new int[] {21, 255, 22, 255});
        });
    }

    private static void imagesOfNone() {
        Edges.edge("false, refused (5), when it is none ... or without a valley, all staying.", () -> {
            BentRiver none = new BentRiver();
            Edges.refused(none, 5, "on", () -> Check.due("without a valley", Check.on(none, Check.image(none)), false));
            BentRiver x = Check.river(SMALL);
            x.plant(0, 0);
            x.seasons(2);
            int[] good = Check.image(x);
            Edges.refused(x, 5, "on", () -> Check.due("nothing", Check.on(x), false));
            Edges.refused(x, 5, "on", () -> Check.due("one less", Check.on(x,
                Check.sealed(java.util.Arrays.copyOf(good, good.length - 1))), false));
            Edges.refused(x, 5, "on", () -> Check.due("one more", Check.on(x,
                Check.sealed(java.util.Arrays.copyOf(good, good.length + 1))), false));
            for (int k = 0; k < good.length; k++) {
                int[] bytes = good.clone();
                bytes[k] = bytes[k] == 0 ? 1 : 0;
                Edges.refused(x, 5, "on", () -> Check.due("another check", Check.on(x, bytes), false));
            }
            BentRiver other = Check.river("valley 3 by 3 reach 1;");
            Edges.refused(other, 5, "on", () -> Check.due("of another VALLEY", Check.on(other, good), false));
            Check.due("it is one", Check.on(x, good), true);
        });
        Edges.edge("The tape (it goes) is AN IMAGE of this VALLEY", () -> {
            BentRiver x = Check.river(SMALL);
            Check.due("on", Check.on(x, Check.image(x)), true);
            Check.due("it went", x.end(1), false);
            Check.due("on", Check.on(x, 1, 2, 3), false);
            Check.due("it went", x.end(1), false);
        });
    }
}
