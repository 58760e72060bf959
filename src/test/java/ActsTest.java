/** Promises 24 to 26, 29: willows, offers, cuts, undoing. */
public final class ActsTest {
    private static final String TEXT = "valley 4 by 4 reach 3;runs 1 3;runs 2 1;runs 3 2;willow 0 0;"
        + "lord a from 0 to 2 pays 3 joy 2 purse 9;lord b from 1 to 3 pays 1 joy 2 purse 0;spate 30;";

    public static void main(String[] args) {
        plant();
        offer();
        cut();
        undo();
        manyUndone();
        Check.finish();
    }

    private static void plant() {
        BentRiver x = Check.river(TEXT);
        for (int i = 2; i <= 9; i++) {
            Check.due("plant", x.plant(0, 0), i);
        }
        Check.due("nine are there", x.plant(0, 0), -1);
        Check.due("another cell", x.plant(3, 3), 1);
        Check.due("no such row", x.plant(0, 4), -1);
        Check.due("no such row", x.plant(1, -1), -1);
        Check.due("no such column", x.plant(4, 0), -1);
        Check.due("no such column", x.plant(-1, 0), -1);
        Check.due("no such column", x.plant(Integer.MIN_VALUE, Integer.MAX_VALUE), -1);
        Check.due("status(2)", x.status(2), 6);
        Check.due("acts", x.has(10), 9);
        Check.due("willows", x.has(7), 10);
    }

    private static void offer() {
        BentRiver x = Check.river(TEXT);
        Check.due("so already", x.offer(0, 1), false);
        Check.due("takes it back", x.offer(0, 0), true);
        Check.due("so already", x.offer(0, 0), false);
        Check.due("OFFERS", x.offer(0, 1), true);
        Check.due("another on", x.offer(0, 2), false);
        Check.due("another on", x.offer(0, -1), false);
        Check.due("no such lord", x.offer(2, 0), false);
        Check.due("no such lord", x.offer(-1, 0), false);
        Check.due("one without a purse", x.offer(1, 0), true);
        Check.due("status(2)", x.status(2), 6);
        Check.due("acts", x.has(10), 3);
        Check.due("who OFFER", x.has(6), 1);
    }

    private static void cut() {
        BentRiver x = Check.river(TEXT);
        Check.due("the first one", x.cut(0), false);
        Check.due("the last one", x.cut(3), false);
        Check.due("none such", x.cut(4), false);
        Check.due("none such", x.cut(-1), false);
        Check.due("cut", x.cut(1), true);
        Check.due("half way, rounded down", x.column(1, 0), 0);
        Check.due("so already", x.cut(1), false);
        Check.due("it runs so already", x.cut(2), false);
        Check.due("row", x.column(2, 0), 1);
        Check.due("status(2)", x.status(2), 6);
        Check.due("acts", x.has(10), 1);
    }

    private static void undo() {
        BentRiver x = Check.river(TEXT);
        Check.due("none can be", x.undo(), false);
        Check.due("status(4)", x.status(4), 1);
        String[] told = new String[6];
        told[0] = Check.told(x);
        x.plant(1, 1);
        told[1] = Check.told(x);
        x.offer(1, 0);
        told[2] = Check.told(x);
        x.cut(1);
        told[3] = Check.told(x);
        x.seasons(7);
        told[4] = Check.told(x);
        x.chance(50);
        // what is refused is no act
        x.plant(9, 9);
        x.seasons(0);
        x.seed(3);
        Check.due("acts", x.has(10), 5);
        for (int i = 4; i >= 0; i--) {
            Check.due("undo " + i, x.undo(), true);
            Check.due("as ahead of act " + i, told[i].equals(Check.told(x)), true);
        }
        Check.due("none can be", x.undo(), false);
        Check.due("status(4)", x.status(4), 2);
        Check.due("acts again", x.plant(1, 1), 1);
        Check.due("alike", told[1].equals(Check.told(x)), true);
    }

    private static void manyUndone() {
        BentRiver x = Check.river(TEXT);
        for (int i = 0; i < 25; i++) {
            x.seasons(1);
            Check.due("acts", x.has(10), Math.min(i + 1, 20));
        }
        for (int i = 24; i >= 5; i--) {
            Check.due("undo", x.undo(), true);
            Check.due("season", x.has(3), i);
        }
        Check.due("no 21st", x.undo(), false);
        Check.due("season", x.has(3), 5);
        x.seasons(2);
        x.seasons(3);
        x.undo();
        Check.due("season", x.has(3), 7);
    }
}
