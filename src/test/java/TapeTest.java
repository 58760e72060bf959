/** Promises 1, 2, 3, 35: a new object, the tape, refusals. */
public final class TapeTest {
    public static void main(String[] args) {
        feeding();
        ending();
        refusals();
        Check.finish();
    }

    private static void feeding() {
        BentRiver x = new BentRiver();
        for (int i = 1; i <= 80; i++) {
            Check.due("feed " + i, x.feed(0, 0, 0, 0, 0), 20 * i);
        }
        Check.due("feed beyond 1600", x.feed(0, 0, 0, 0, 0), -1);
        Check.due("end(1581)", x.end(1581), true);
        Check.due("feed at 1581", x.feed(0, 0, 0, 0, 0), -1);
        Check.due("end(1580)", x.end(1580), true);
        Check.due("feed at 1580", x.feed(0, 0, 0, 0, 0), 1600);
        Check.due("status", x.status(0), 2);
        // of each number the highest byte first: "tota l nu mber" read back as a question
        BentRiver y = Check.river("valley 3 by 2 reach 1;lord a from 0 to 2 pays 1 joy 1 purse 7;");
        Check.due("feed", y.feed(0x746f7461, 0x6c207075, 0x7273652b, 0x322a3320, 0x20202020), 20);
        Check.due("total purse+2*3", y.ask(), 13);
        Check.due("the tape went", y.end(1), false);
        // behind those on the tape
        y.feed(0x746f7461, 0x6c207075, 0x72736521, 0x21212121, 0x21212121);
        Check.due("end(11)", y.end(11), true);
        Check.due("feed behind", y.feed(0x2b342020, 0x20202020, 0x20202020, 0x20202020, 0x20202020), 31);
        Check.due("total purse+4", y.ask(), 11);
    }

    private static void ending() {
        BentRiver x = new BentRiver();
        Check.due("end(0) of nothing", x.end(0), true);
        Check.due("end(1) of nothing", x.end(1), false);
        x.feed(1, 2, 3, 4, 5);
        Check.due("end(-1)", x.end(-1), false);
        Check.due("end(least)", x.end(Integer.MIN_VALUE), false);
        Check.due("end(most)", x.end(Integer.MAX_VALUE), false);
        Check.due("end(21)", x.end(21), false);
        Check.due("end(20)", x.end(20), true);
        Check.due("end(7)", x.end(7), true);
        Check.due("end(8)", x.end(8), false);
        Check.due("status(0)", x.status(0), 6);
    }

    private static void refusals() {
        BentRiver x = new BentRiver();
        for (int what = 0; what < 6; what++) {
            Check.due("status at first", x.status(what), 0);
        }
        Check.due("status(-1)", x.status(-1), -1);
        Check.due("status(6)", x.status(6), -1);
        x.valley();
        x.see();
        Check.due("status(1)", x.status(1), 2);
        x.plant(0, 0);
        x.offer(0, 1);
        x.cut(0);
        Check.due("status(2)", x.status(2), 3);
        x.seasons(1);
        x.chance(1);
        Check.due("status(3)", x.status(3), 2);
        x.undo();
        Check.due("status(4)", x.status(4), 1);
        x.seed(-5);
        x.on();
        Check.due("status(5)", x.status(5), 2);
        Check.due("ask is not refused", Check.ask(x, "x"), BentRiver.NOTHING);
        Check.due("status(0)", x.status(0), 0);
        // a new valley does not make refusals undone
        Check.valley(x, "valley 3 by 2 reach 1;");
        Check.due("status(2) stays", x.status(2), 3);
    }
}
