/** The boundary cases that promises 1 to 12, 24 to 30 and 35 name: the tape, what is told, acts, refusals. */
public final class EdgesOfCallsTest {
    private static final int LEAST = Integer.MIN_VALUE;
    private static final int MOST = Integer.MAX_VALUE;
    private static final String STILL = "valley 3 by 2 reach 1;eats 0;";
    private static final String LORDS = "lord ab from 0 to 1 pays 3 joy 4 purse 9;lord zyxwvu from 1 to 2 pays 1 joy 2 purse 0;";

    public static void main(String[] args) {
        newObject();
        lastCall();
        feed();
        end();
        valley();
        fault();
        has();
        letter();
        columnsAndCells();
        eats();
        lord();
        kept();
        plant();
        offer();
        cut();
        seasons();
        chance();
        undo();
        seed();
        status();
        Check.finish();
    }

    private static void newObject() {
        Edges.edge("BentRiver(): No valley, no lords.", () -> {
            BentRiver x = new BentRiver();
            for (int what = 0; what <= 10; what++) {
                Check.due("has(" + what + ")", x.has(what), 0);
            }
            Check.due("column", x.column(0, 0), -1);
            Check.due("cell", x.cell(0, 0, 0), -1);
            Check.due("lord", x.lord(0, 0), -1);
            Check.due("letter", x.letter(0, 0), -1);
            Check.due("eats", x.eats(0, 0), BentRiver.NOTHING);
            Check.due("nothing on the tape", x.end(1), false);
        });
        Edges.edge("NONE = -1: There is none; it is refused. ... NOTHING = -1000000000000000L: Told where a number below 0 may be one.",
            () -> {
                Check.due("NONE", BentRiver.NONE, -1);
                Check.due("NOTHING", BentRiver.NOTHING, -1000000000000000L);
            });
    }

    private static void lastCall() {
        Edges.edge("An object is used for at most 512 calls after it has been made", () -> {
            BentRiver x = new BentRiver();
            x.feed(0x76616c6c, 0x65792033, 0x20627920, 0x32207265, 0x61636820);
            x.feed(0x313b7370, 0x61746520, 0x3130303b, 0x20202020, 0x20202020);
            x.end(32);
            Check.due("the 4th call", x.valley(), 2);
            for (int i = 0; i < 169; i++) {
                Check.due("chance", x.chance(3), 3);
                x.see();
                x.undo();
            }
            Check.due("the 512th call", x.status(1), 169);
        });
    }

    private static int feedBlanks(BentRiver x) {
        return x.feed(0x20202020, 0x20202020, 0x20202020, 0x20202020, 0x20202020);
    }

    private static void feed() {
        Edges.edge("Twenty bytes come behind those on the tape, of each number the highest first: how many there are", () -> {
            BentRiver x = Check.river(STILL);
            // a row of SEASON 30, column 2, row 1, which is none the other way round
            Check.due("20", x.feed(0x1e020121, 0x21212121, 0x21212121, 0x21212121, 0x21212121), 20);
            Check.due("end(3)", x.end(3), true);
            Check.due("see", x.see(), 1);
            Check.due("first half", x.feed(0x6f667465, 0x6e20616c, 0x6c202020, 0x20202020, 0x20202020), 20);
            Check.due("end(6)", x.end(6), true);
            Check.due("behind those", x.feed(0x616c6c20, 0x20202020, 0x20202020, 0x20202020, 0x2020200a), 26);
            Check.due("often all", x.ask(), 0);
            Check.due("no FAULT", x.fault(0), 0);
            // numbers below 0 are bytes above 127
            x.feed(0xff000000, 0x80000000, -1, LEAST, MOST);
            x.end(1);
            Check.due("byte 255", x.ask(), BentRiver.NOTHING);
            Check.due("its place", x.fault(1), 0);
        });
        Edges.edge("NONE, refused (0), if there would be more than 1600.", () -> {
            BentRiver x = new BentRiver();
            for (int i = 1; i <= 80; i++) {
                Check.due("feed " + i, feedBlanks(x), 20 * i);
            }
            Edges.refused(x, 0, "feed", () -> Check.due("more than 1600", feedBlanks(x), -1));
            Check.due("1600 are there still", x.end(1600), true);
            Check.due("1601 are not", x.end(1601), false);
            x.end(1581);
            Edges.refused(x, 0, "feed", () -> Check.due("1601", feedBlanks(x), -1));
            Check.due("1581 are there still", x.end(1581), true);
            Check.due("1582 are not", x.end(1582), false);
            x.end(1580);
            Check.due("1600", feedBlanks(x), 1600);
        });
    }

    private static void end() {
        Edges.edge("The tape has its first n bytes alone: true; false, refused (0), if it has not so many, or n is below 0.", () -> {
            BentRiver x = new BentRiver();
            Check.due("0 of none", x.end(0), true);
            Edges.refused(x, 0, "end", () -> Check.due("1 of none", x.end(1), false));
            feedBlanks(x);
            for (int n : new int[] {21, MOST, -1, LEAST}) {
                Edges.refused(x, 0, "end", () -> Check.due("end(" + n + ")", x.end(n), false));
            }
            Check.due("all", x.end(20), true);
            Check.due("but one", x.end(19), true);
            Edges.refused(x, 0, "end", () -> Check.due("end(20)", x.end(20), false));
            Check.due("none", x.end(0), true);
            Edges.refused(x, 0, "end", () -> Check.due("end(1)", x.end(1), false));
            Check.due("feed from there on", feedBlanks(x), 20);
            // what is cut off is not part of the text
            BentRiver y = new BentRiver();
            Check.feed(y, STILL + "?");
            Check.due("but the last", y.end(STILL.length()), true);
            Check.due("valley", y.valley(), 2);
        });
    }

    private static BentRiver used() {
        BentRiver x = Check.river(STILL + LORDS + "spate 50;");
        x.plant(0, 0);
        x.seasons(3);
        Edges.see(x, 1, 1, 1);
        return x;
    }

    private static void valley() {
        Edges.edge("how many STATEMENTS; NONE, refused (1), with a FAULT (all stays;", () -> {
            BentRiver x = used();
            for (String text : new String[] {"", " ", "x", "valley 3 by 2 reach 1", "valley 10 by 8 reach 7;lord q from 0 to 9 pays 9 "
                + "joy 9 purse 9;runs 0 1;eats 1;bend all;spate 100;spate 101;"}) {
                Edges.refused(x, 1, "valley", () -> Check.due("valley " + text, Check.valley(x, text), -1));
                Check.due("a FAULT", x.fault(0) > 0, true);
            }
            Check.due("its lords stay", x.letter(0, 0), 1);
            Check.due("its eats stay", x.eats(0, 0), 0);
            Check.due("its bend stays", x.has(5), 0);
            Check.due("what is SEEN stays", x.ran(1), 2);
            Check.due("the ACTS stay", x.undo(), true);
        });
        Edges.edge("Without one all is as at first, nothing is KEPT, SEEN or can be undone", () -> {
            BentRiver x = used();
            Check.due("valley", Check.valley(x, STILL + LORDS + "spate 50;"), 5);
            Check.due("as at first", Check.told(x).equals(Check.told(Check.river(STILL + LORDS + "spate 50;"))), true);
            Check.due("KEPT", x.has(8), 0);
            Check.due("SEEN", x.has(9), 0);
            Check.due("SEEN", x.ran(1), 3);
            Check.due("can be undone", x.has(10), 0);
            Check.due("undo", x.undo(), false);
            BentRiver y = Check.river("valley 10 by 8 reach 7;runs 9 7;willow 9 7;willow 0 0;" + LORDS);
            y.seasons(5);
            Check.valley(y, "valley 3 by 2 reach 1;");
            Check.due("nothing of a larger one", Check.told(y).equals(Check.told(Check.river("valley 3 by 2 reach 1;"))), true);
            Check.due("no lords", y.lord(0, 0), -1);
            Check.due("no purses", y.sums(0, 2), 0);
        });
        Edges.edge("Without one all is as at first", () -> {
            // each text in turn is read where the last but one had been
            String all = "valley 3 by 2 reach 1;runs 0 1;runs 1 1;runs 2 1;soil 0 0 1;willow 0 0;willow 2 1;spate 100;eats 7+8;"
                + "bend all and all;" + LORDS;
            BentRiver x = Check.river(all);
            Check.due("paid", x.seasons(1), 6);
            BentRiver plain = Check.river("valley 3 by 2 reach 1;");
            for (int i = 0; i < 2; i++) {
                Check.due("plain", Check.valley(x, "valley 3 by 2 reach 1;"), 1);
                Check.due("as a new one", Check.told(x).equals(Check.told(plain)), true);
                Check.due("soil", x.cell(0, 0, 0), 5);
                Check.due("eats", x.eats(0, 0), -5);
                Check.due("BENDS", x.has(5), 0);
                Check.due("FUND", x.has(4), 0);
                Check.due("purses", x.sums(0, 2), 0);
                Check.due("spates", x.chance(100), 0);
            }
            for (int i = 0; i < 3; i++) {
                Check.due("all of it once more", Check.valley(x, all), 12);
                Check.due("all of it once more", Check.told(x).equals(Check.told(Check.river(all))), true);
            }
        });
        Edges.edge("the seed stays.", () -> {
            BentRiver x = used();
            x.seed(77);
            Check.valley(x, STILL + "spate 50;");
            BentRiver y = Check.river(STILL + "spate 50;");
            y.seed(77);
            x.chance(30);
            y.chance(30);
            Check.due("alike", Check.told(x).equals(Check.told(y)), true);
        });
        Edges.edge("The tape (it goes) is THE VALLEY", () -> {
            BentRiver x = new BentRiver();
            Check.valley(x, "valley 3");
            Check.due("with a FAULT", x.end(1), false);
            Check.valley(x, STILL);
            Check.due("without", x.end(1), false);
        });
    }

    private static void fault() {
        Edges.edge("its FAULT (what 0; 0 without, and ahead of any), its place (1; NONE without). NONE for another what.", () -> {
            BentRiver x = new BentRiver();
            faults(x, 0, -1);
            Check.valley(x, "");
            faults(x, 1, 0);
            Check.valley(x, "valley 2");
            faults(x, 2, 7);
            Check.valley(x, STILL);
            faults(x, 0, -1);
        });
        Edges.edge("Of the latest valley() or ask()", () -> {
            BentRiver x = Check.river(STILL);
            Check.ask(x, "often ?");
            faults(x, 1, 6);
            Check.ask(x, "often all");
            faults(x, 0, -1);
            Check.valley(x, "valley 3 by 9");
            faults(x, 2, 12);
            Check.ask(x, "often all");
            faults(x, 0, -1);
            Check.ask(x, "total ((((((((");
            faults(x, 4, 12);
            // no other call has one
            Edges.see(x, 1);
            Check.on(x, 1);
            x.plant(9, 9);
            faults(x, 4, 12);
        });
    }

    private static void faults(BentRiver x, int fault, int place) {
        Check.due("fault(0)", x.fault(0), fault);
        Check.due("fault(1)", x.fault(1), place);
        for (int what : new int[] {2, -1, LEAST, MOST}) {
            Check.due("fault(" + what + ")", x.fault(what), -1);
        }
    }

    private static void has() {
        Edges.edge("How many there are: 0 columns, 1 rows, 2 LORDS, 3 SEASON, 4 FUND, 5 BENDS, 6 who OFFER, 7 willows, "
            + "8 what is told as KEPT, 9 rows SEEN, 10 ACTS that can be undone. NONE for others.", () -> {
            BentRiver x = used();
            x.offer(1, 0);
            int[] due = {3, 2, 2, 3, 0, 0, 1, 1, 3, 1, 3};
            for (int what = 0; what < due.length; what++) {
                Check.due("has(" + what + ")", x.has(what), due[what]);
            }
            for (int what : new int[] {-1, 11, LEAST, MOST}) {
                Check.due("has(" + what + ")", x.has(what), -1);
                Check.due("has(" + what + ") without a valley", new BentRiver().has(what), -1);
            }
            BentRiver most = Check.river("valley 10 by 8 reach 7;bend all;" + "willow 9 7;".repeat(9));
            Check.due("all BENDS", most.has(5), 10);
            Check.due("willows", most.has(7), 9);
        });
    }

    private static void letter() {
        Edges.edge("Letter k (0 .. 5) of the NAME of a LORD: 1 .. 26; 0 behind it; NONE when there is none such.", () -> {
            BentRiver x = Check.river(STILL + LORDS + "lord a from 0 to 0 pays 0 joy 0 purse 0;");
            int[][] due = {{1, 2, 0, 0, 0, 0}, {26, 25, 24, 23, 22, 21}, {1, 0, 0, 0, 0, 0}};
            for (int lord = 0; lord < 3; lord++) {
                for (int k = 0; k < 6; k++) {
                    Check.due("letter(" + lord + ", " + k + ")", x.letter(lord, k), due[lord][k]);
                }
                for (int k : new int[] {-1, 6, LEAST, MOST}) {
                    Check.due("letter(" + lord + ", " + k + ")", x.letter(lord, k), -1);
                }
            }
            for (int lord : new int[] {-1, 3, 4, 5, LEAST, MOST}) {
                Check.due("letter(" + lord + ", 0)", x.letter(lord, 0), -1);
            }
        });
    }

    private static void columnsAndCells() {
        Edges.edge("Of a column: 0 the row where the river runs, 1 how much it turns, 2 whether it is a BEND, "
            + "3 what all LORDS of it offer together. NONE when there is none such, or for others.", () -> {
            BentRiver x = Check.river(STILL + "runs 1 1;" + LORDS);
            int[][] due = {{0, 0, 0, 3}, {1, 2, 1, 3}, {0, 0, 0, 0}};
            for (int c = 0; c < 3; c++) {
                for (int what = 0; what < 4; what++) {
                    Check.due("column(" + c + ", " + what + ")", x.column(c, what), due[c][what]);
                }
                for (int what : new int[] {-1, 4, LEAST, MOST}) {
                    Check.due("column(" + c + ", " + what + ")", x.column(c, what), -1);
                }
            }
            for (int c : new int[] {-1, 3, 9, 10, LEAST, MOST}) {
                Check.due("column(" + c + ", 0)", x.column(c, 0), -1);
            }
        });
        Edges.edge("Of a CELL: 0 soil, 1 willows, 2 how often it ran there. NONE when there is none such, or for others.", () -> {
            BentRiver x = Check.river(STILL + "soil 2 1 9;willow 2 1;runs 2 1;");
            x.seasons(1);
            Check.due("soil", x.cell(2, 1, 0), 9);
            Check.due("willows", x.cell(2, 1, 1), 1);
            Check.due("how often", x.cell(2, 1, 2), 1);
            for (int what : new int[] {-1, 3, LEAST, MOST}) {
                Check.due("cell(0, 0, " + what + ")", x.cell(0, 0, what), -1);
            }
            for (int other : new int[] {-1, 3, 8, LEAST, MOST}) {
                Check.due("cell(" + other + ", 0, 0)", x.cell(other, 0, 0), -1);
                Check.due("cell(0, " + other + ", 0)", x.cell(0, other, 0), -1);
            }
            Check.due("cell(0, 2, 0)", x.cell(0, 2, 0), -1);
        });
    }

    private static void eats() {
        Edges.edge("The SUM of eats of a CELL, wherever the river runs; NOTHING when there is none such.", () -> {
            BentRiver x = Check.river("valley 3 by 2 reach 1;eats column*10+row-11;");
            Check.due("below 0", x.eats(0, 0), -11);
            Check.due("where the river runs", x.eats(1, 0), -1);
            Check.due("0", x.eats(1, 1), 0);
            Check.due("the last", x.eats(2, 1), 10);
            for (int other : new int[] {-1, 3, 8, LEAST, MOST}) {
                Check.due("eats(" + other + ", 0)", x.eats(other, 0), BentRiver.NOTHING);
                Check.due("eats(0, " + other + ")", x.eats(0, other), BentRiver.NOTHING);
            }
            Check.due("eats(0, 2)", x.eats(0, 2), BentRiver.NOTHING);
            Check.due("without a valley", new BentRiver().eats(0, 0), BentRiver.NOTHING);
        });
    }

    private static void lord() {
        Edges.edge("Of a LORD: 0, 1 his columns, 2 pays, 3 joy, 4 purse, 5 whether he OFFERS, 6 BENDS in his columns. "
            + "NONE when there is none such, or for others.", () -> {
            BentRiver x = Check.river(STILL + "runs 1 1;bend column>0;" + LORDS);
            x.offer(1, 0);
            int[][] due = {{0, 1, 3, 4, 9, 1, 1}, {1, 2, 1, 2, 0, 0, 2}};
            for (int lord = 0; lord < 2; lord++) {
                for (int what = 0; what < 7; what++) {
                    Check.due("lord(" + lord + ", " + what + ")", x.lord(lord, what), due[lord][what]);
                }
                for (int what : new int[] {-1, 7, LEAST, MOST}) {
                    Check.due("lord(" + lord + ", " + what + ")", x.lord(lord, what), -1);
                }
            }
            for (int lord : new int[] {-1, 2, 4, 5, LEAST, MOST}) {
                Check.due("lord(" + lord + ", 0)", x.lord(lord, 0), -1);
            }
        });
    }

    private static void kept() {
        Edges.edge("Of what is told as KEPT, the k-th from the oldest on: 0 SEASON, 1 BENDS, 2 what was paid. "
            + "NONE when there is none such, or for others.", () -> {
            BentRiver x = Check.river(STILL + "bend column<season;lord a from 0 to 2 pays 2 joy 0 purse 99;");
            Check.due("none", x.kept(0, 0), -1);
            x.seasons(2);
            int[][] due = {{0, 0, 0}, {1, 1, 2}};
            for (int k = 0; k < 2; k++) {
                for (int what = 0; what < 3; what++) {
                    Check.due("kept(" + k + ", " + what + ")", x.kept(k, what), due[k][what]);
                }
                for (int what : new int[] {-1, 3, LEAST, MOST}) {
                    Check.due("kept(" + k + ", " + what + ")", x.kept(k, what), -1);
                }
            }
            for (int k : new int[] {-1, 2, LEAST, MOST}) {
                Check.due("kept(" + k + ", 0)", x.kept(k, 0), -1);
            }
            Check.due("without a valley", new BentRiver().kept(0, 0), -1);
        });
    }

    private static void plant() {
        Edges.edge("A willow is set: how many there are in the CELL; NONE, refused (2), when 9 are, or there is none such.", () -> {
            BentRiver x = Check.river(STILL);
            for (int i = 1; i <= 9; i++) {
                Check.due("plant " + i, x.plant(2, 1), i);
            }
            Edges.refused(x, 2, "plant", () -> Check.due("9 are there", x.plant(2, 1), -1));
            for (int other : new int[] {-1, 3, 8, LEAST, MOST}) {
                Edges.refused(x, 2, "plant", () -> Check.due("plant(" + other + ", 0)", x.plant(other, 0), -1));
                Edges.refused(x, 2, "plant", () -> Check.due("plant(0, " + other + ")", x.plant(0, other), -1));
            }
            Edges.refused(x, 2, "plant", () -> Check.due("plant(0, 2)", x.plant(0, 2), -1));
            Check.due("another", x.plant(0, 0), 1);
            BentRiver none = new BentRiver();
            Edges.refused(none, 2, "plant", () -> Check.due("without a valley", none.plant(0, 0), -1));
        });
    }

    private static void offer() {
        Edges.edge("A LORD OFFERS (on 1), or takes it back (0): true; false, refused (2), when it is so already, "
            + "there is none such, or for others.", () -> {
            BentRiver x = Check.river(STILL + LORDS);
            Edges.refused(x, 2, "offer", () -> Check.due("so already", x.offer(0, 1), false));
            Check.due("takes it back", x.offer(0, 0), true);
            Edges.refused(x, 2, "offer", () -> Check.due("so already", x.offer(0, 0), false));
            Check.due("OFFERS", x.offer(0, 1), true);
            Check.due("without a purse", x.offer(1, 0), true);
            for (int on : new int[] {-1, 2, LEAST, MOST}) {
                Edges.refused(x, 2, "offer", () -> Check.due("offer(0, " + on + ")", x.offer(0, on), false));
            }
            for (int lord : new int[] {-1, 2, 4, 5, LEAST, MOST}) {
                Edges.refused(x, 2, "offer", () -> Check.due("offer(" + lord + ", 0)", x.offer(lord, 0), false));
                Edges.refused(x, 2, "offer", () -> Check.due("offer(" + lord + ", 1)", x.offer(lord, 1), false));
            }
            BentRiver none = new BentRiver();
            Edges.refused(none, 2, "offer", () -> Check.due("without a valley", none.offer(0, 1), false));
        });
    }

    private static void cut() {
        Edges.edge("A column is CUT: true; false, refused (2), when it runs so already, it is the first, the last one, "
            + "or there is none such.", () -> {
            BentRiver x = Check.river("valley 4 by 8 reach 7;runs 0 4;runs 1 2;runs 3 7;");
            for (int c : new int[] {0, 1, 3, 4, -1, LEAST, MOST}) {
                Edges.refused(x, 2, "cut", () -> Check.due("cut(" + c + ")", x.cut(c), false));
            }
            Check.due("cut(2)", x.cut(2), true);
            Edges.rows("cut", x, 4, 2, 4, 7);
            Check.due("cut(1)", x.cut(1), true);
            Edges.rows("cut", x, 4, 4, 4, 7);
            BentRiver none = new BentRiver();
            for (int c = 0; c < 3; c++) {
                int column = c;
                Edges.refused(none, 2, "cut", () -> Check.due("without a valley", none.cut(column), false));
            }
        });
    }

    private static void seasons() {
        Edges.edge("n SEASONS (1 .. 100): what was paid; NONE, refused (3), when it can't be, or without a valley.", () -> {
            BentRiver x = Check.river(STILL + "bend column=0;lord a from 0 to 0 pays 1 joy 0 purse 101;");
            for (int n : new int[] {0, -1, 101, LEAST, MOST}) {
                Edges.refused(x, 3, "seasons", () -> Check.due("seasons(" + n + ")", x.seasons(n), -1));
            }
            Check.due("seasons(1)", x.seasons(1), 1);
            Check.due("seasons(100)", x.seasons(100), 100);
            Check.due("nothing is left", x.seasons(100), 0);
            Check.due("SEASON", x.has(3), 201);
            BentRiver last = Edges.inSeason(900, STILL);
            Edges.refused(last, 3, "seasons", () -> Check.due("beyond 999", last.seasons(100), -1));
            Check.due("to 999", last.seasons(99), 0);
            Edges.refused(last, 3, "seasons", () -> Check.due("beyond 999", last.seasons(1), -1));
            BentRiver none = new BentRiver();
            Edges.refused(none, 3, "seasons", () -> Check.due("without a valley", none.seasons(1), -1));
        });
    }

    private static void chance() {
        Edges.edge("n SEASONS by the seed (1 .. 100), one ACT: how many spates; NONE, refused (3), when it can't be, "
            + "or without a valley.", () -> {
            BentRiver x = Check.river(STILL + "spate 100;");
            for (int n : new int[] {0, -1, 101, LEAST, MOST}) {
                Edges.refused(x, 3, "chance", () -> Check.due("chance(" + n + ")", x.chance(n), -1));
            }
            Check.due("chance(1)", x.chance(1), 1);
            Check.due("chance(100)", x.chance(100), 100);
            Check.due("two ACTS", x.has(10), 2);
            Check.due("SEASON", x.has(3), 101);
            x.undo();
            Check.due("one ACT is undone", x.has(3), 1);
            BentRiver last = Edges.inSeason(900, STILL + "spate 100;");
            Edges.refused(last, 3, "chance", () -> Check.due("beyond 999", last.chance(100), -1));
            Check.due("to 999", last.chance(99), 99);
            Edges.refused(last, 3, "chance", () -> Check.due("beyond 999", last.chance(1), -1));
            BentRiver none = new BentRiver();
            Edges.refused(none, 3, "chance", () -> Check.due("without a valley", none.chance(1), -1));
        });
        Edges.edge("n SEASONS by the seed (1 .. 100), one ACT: how many spates; NONE, refused (3), when it can't be", () -> {
            // what is refused draws nothing
            BentRiver x = Check.river(STILL + "spate 50;");
            BentRiver y = Check.river(STILL + "spate 50;");
            x.chance(0);
            x.chance(101);
            x.chance(20);
            y.chance(20);
            Check.due("alike", Check.told(x).equals(Check.told(y)), true);
        });
    }

    private static void undo() {
        Edges.edge("The latest ACT is undone (the seed stays): true; false, refused (4), when none can be.", () -> {
            BentRiver x = Check.river(STILL + LORDS + "runs 1 1;spate 100;");
            Edges.refused(x, 4, "undo", () -> Check.due("none", x.undo(), false));
            String[] told = new String[5];
            told[0] = Check.told(x);
            x.plant(1, 1);
            told[1] = Check.told(x);
            x.offer(0, 0);
            told[2] = Check.told(x);
            x.cut(1);
            told[3] = Check.told(x);
            x.seasons(4);
            told[4] = Check.told(x);
            x.chance(4);
            for (int i = 4; i >= 0; i--) {
                Check.due("undone", x.undo(), true);
                Check.due("as ahead of it, " + i, Check.told(x).equals(told[i]), true);
            }
            Edges.refused(x, 4, "undo", () -> Check.due("none", x.undo(), false));
            BentRiver none = new BentRiver();
            Edges.refused(none, 4, "undo", () -> Check.due("without a valley", none.undo(), false));
        });
        Edges.edge("(the seed stays)", () -> {
            BentRiver x = Check.river(STILL + "spate 100;");
            x.chance(1);
            x.undo();
            x.chance(20);
            long drawn = 1;
            for (int i = 0; i < 3; i++) {
                drawn = (1103515245L * drawn + 12345L) % (1L << 31);
            }
            BentRiver y = Check.river(STILL + "spate 100;");
            y.seed((int) drawn);
            y.chance(20);
            Check.due("as three DRAWS left it", Check.told(x).equals(Check.told(y)), true);
            BentRiver z = Check.river(STILL + "spate 100;");
            z.chance(20);
            Check.due("not as at first", Check.told(x).equals(Check.told(z)), false);
        });
    }

    private static void seed() {
        Edges.edge("The seed: true; false, refused (5), when it is below 0.", () -> {
            BentRiver x = Check.river(STILL + "spate 50;");
            Check.due("seed(0)", x.seed(0), true);
            Check.due("seed(most)", x.seed(MOST), true);
            Edges.refused(x, 5, "seed", () -> Check.due("seed(-1)", x.seed(-1), false));
            Edges.refused(x, 5, "seed", () -> Check.due("seed(least)", x.seed(LEAST), false));
            BentRiver y = Check.river(STILL + "spate 50;");
            y.seed(MOST);
            x.chance(20);
            y.chance(20);
            Check.due("what is refused changes nothing", Check.told(x).equals(Check.told(y)), true);
            Check.due("without a valley", new BentRiver().seed(9), true);
            Check.due("it is no ACT", y.has(10), 1);
        });
    }

    private static void status() {
        Edges.edge("How many were refused: 0 feed(), end(); 1 valley(), see(); 2 plant(), offer(), cut(); 3 seasons(), chance(); "
            + "4 undo(); 5 seed(), on(). NONE for others.", () -> {
            BentRiver x = new BentRiver();
            for (int what : new int[] {-1, 6, LEAST, MOST}) {
                Check.due("status(" + what + ")", x.status(what), -1);
            }
            for (int i = 0; i < 3; i++) {
                x.end(1);
                x.valley();
                x.see();
                x.plant(0, 0);
                x.offer(0, 0);
                x.cut(1);
                x.seasons(1);
                x.chance(1);
                x.undo();
                x.seed(-1);
                x.on();
            }
            // those that answer NONE or NOTHING are not refused
            x.ask();
            x.later(0, 0);
            x.octet(0);
            int[] due = {3, 6, 9, 6, 3, 6};
            for (int what = 0; what < 6; what++) {
                Check.due("status(" + what + ")", x.status(what), due[what]);
            }
        });
    }
}
