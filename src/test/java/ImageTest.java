/** Promises 32 to 34: IMAGES. */
public final class ImageTest {
    private static final String TEXT = "valley 3 by 2 reach 1;runs 0 1;runs 1 1;willow 2 1;willow 2 1;eats 0;bend column<2;"
        + "lord a from 0 to 2 pays 90 joy 2 purse 999;lord b from 1 to 2 pays 1 joy 2 purse 300;";
    // SEASON, FUND, rows, willows and times of six cells, two lords, check
    private static final int[] BEHIND_TWO = {0, 2, 0, 1, 106, 1, 1, 0, 0, 0, 0, 2, 0, 0, 0, 2, 0, 2, 2, 0,
        1, 639 >> 8, 639 & 255, 1, 298 >> 8, 298 & 255, 0};

    public static void main(String[] args) {
        writing();
        reading();
        refusing();
        forgetting();
        Check.finish();
    }

    private static void writing() {
        BentRiver none = new BentRiver();
        Check.due("octet ahead of any", none.octet(0), -1);
        Check.due("image without a valley", none.image(), 6);
        BentRiver x = Check.river(TEXT);
        x.seasons(2);
        Check.due("fund", x.has(4), 362);
        int[] due = Check.sealed(BEHIND_TWO.clone());
        Check.due("image", x.image(), due.length);
        x.offer(0, 0);
        // octets are those of the latest image()
        for (int k = 0; k < due.length; k++) {
            Check.due("octet(" + k + ")", x.octet(k), due[k]);
        }
        Check.due("octet behind", x.octet(due.length), -1);
        Check.due("octet(-1)", x.octet(-1), -1);
        x.image();
        Check.due("octet of offers", x.octet(20), 0);
        Check.valley(x, "valley 3 by 2 reach 1;");
        Check.due("the latest image() stays", x.octet(1), 2);
        Check.due("the largest", Check.river("valley 10 by 8 reach 1;" + lords()).image(), 191);
    }

    private static String lords() {
        StringBuilder all = new StringBuilder();
        for (char name = 'a'; name < 'f'; name++) {
            all.append("lord ").append(name).append(" from 0 to 0 pays 1 joy 1 purse 1;");
        }
        return all.toString();
    }

    private static void reading() {
        BentRiver x = Check.river(TEXT);
        Check.due("on", Check.on(x, Check.sealed(BEHIND_TWO.clone())), true);
        Check.due("the tape went", x.end(1), false);
        BentRiver y = Check.river(TEXT);
        y.seasons(2);
        Check.due("alike", Check.told(x).replaceAll(" .*", "").equals(Check.told(y).replaceAll(" .*", "")), true);
        for (int what = 0; what < 8; what++) {
            Check.due("has(" + what + ")", x.has(what), y.has(what));
        }
        Check.due("purse", x.lord(0, 4), 639);
        Check.due("purse", x.lord(1, 4), 298);
        Check.due("times", x.cell(0, 1, 2), 2);
        Check.due("willows", x.cell(2, 1, 1), 2);
        Check.due("seasons go on", x.seasons(5), y.seasons(5));
        // the most of all, rows farther apart than reach among them
        BentRiver z = Check.river("valley 3 by 8 reach 1;lord a from 0 to 0 pays 1 joy 1 purse 0;");
        int[] bytes = Check.image(z);
        java.util.Arrays.fill(bytes, 8, bytes.length - 4, 0);
        int[] head = {3, 231, 15, 66, 63, 7, 0, 7, 9, 99};
        System.arraycopy(head, 0, bytes, 0, head.length);
        int lord = bytes.length - 4;
        bytes[lord] = 0;
        bytes[lord + 1] = 3;
        bytes[lord + 2] = 231;
        Check.due("on", Check.on(z, Check.sealed(bytes)), true);
        Check.due("season", z.has(3), 999);
        Check.due("fund", z.has(4), 999999);
        Check.due("row", z.column(2, 0), 7);
        Check.due("willows", z.cell(0, 0, 1), 9);
        Check.due("times", z.cell(0, 0, 2), 99);
        Check.due("offers", z.lord(0, 5), 0);
        Check.due("purse", z.lord(0, 4), 999);
        int[] again = Check.image(z);
        for (int k = 0; k < bytes.length; k++) {
            Check.due("written again", again[k], bytes[k]);
        }
    }

    private static void refused(String what, int[] bytes) {
        BentRiver x = Check.river(TEXT);
        x.plant(0, 0);
        x.seasons(1);
        String told = Check.told(x);
        Check.due(what, Check.on(x, bytes), false);
        Check.due("all staying with " + what, told.equals(Check.told(x)), true);
        Check.due("status(5)", x.status(5), 1);
        Check.due("the tape went", x.end(1), false);
    }

    private static int[] with(int... placesAndBytes) {
        int[] bytes = BEHIND_TWO.clone();
        for (int i = 0; i < placesAndBytes.length; i += 2) {
            bytes[placesAndBytes[i]] = placesAndBytes[i + 1];
        }
        return Check.sealed(bytes);
    }

    private static void refusing() {
        refused("nothing", new int[0]);
        refused("a byte less", Check.sealed(java.util.Arrays.copyOf(BEHIND_TWO, BEHIND_TWO.length - 1)));
        refused("a byte more", Check.sealed(java.util.Arrays.copyOf(BEHIND_TWO, BEHIND_TWO.length + 1)));
        int[] check = with();
        check[check.length - 1]++;
        refused("a wrong check", check);
        refused("SEASON 1000", with(0, 3, 1, 232));
        refused("FUND 1000000", with(2, 15, 3, 66, 4, 64));
        refused("row 2", with(5, 2));
        refused("row 255", with(7, 255));
        refused("willows 10", with(8, 10));
        refused("times 100", with(9, 100));
        refused("willows 10 in the last cell", with(18, 10));
        refused("times 100 in the last cell", with(19, 100));
        refused("OFFERS 2", with(20, 2));
        refused("purse 1000", with(21, 3, 22, 232));
        refused("the last OFFERS", with(23, 3));
        refused("the last purse", with(24, 3, 25, 232));
        BentRiver none = new BentRiver();
        Check.due("without a valley", Check.on(none, Check.image(none)), false);
        Check.due("status(5)", none.status(5), 1);
        Check.due("the tape went", none.end(1), false);
    }

    private static void forgetting() {
        BentRiver x = Check.river(TEXT + "spate 50;");
        x.seasons(3);
        x.plant(0, 0);
        Check.feed(x, 0, 0, 1);
        x.see();
        int[] bytes = Check.image(x);
        x.seasons(5);
        x.later(0, 2);
        Check.due("on", Check.on(x, bytes), true);
        Check.due("season", x.has(3), 3);
        Check.due("nothing is KEPT", x.has(8), 0);
        Check.due("nothing is KEPT", x.kept(0, 0), -1);
        Check.due("nothing can be undone", x.has(10), 0);
        Check.due("nothing can be undone", x.undo(), false);
        Check.due("SEEN stays", x.has(9), 1);
        x.seasons(2);
        Check.due("KEPT from there on", x.kept(0, 0), 3);
        Check.due("KEPT from there on", x.kept(1, 0), 4);
        Check.due("undo", x.undo(), true);
        Check.due("season", x.has(3), 3);
    }
}
