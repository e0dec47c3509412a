/** Promises 19 to 23: bids, seats, words. */
public final class BidsTest {
    private static final Due due = new Due("BidsTest");

    public static void main(String[] args) {
        promise19Buy();
        promise19Edges();
        promise20Seats();
        promise20Edges();
        promise21Word();
        promise22Heard();
        promise23Richest();
        due.end();
    }

    private static void promise19Buy() {
        SilenceMinute x = Due.threeRide();
        due.does(x, "A05", 1);
        due.bought(x, 2, -6, -6);
        x.purse(2, 66);
        due.bought(x, 2, 6, 66);
        x.purse(2, 65);
        due.bought(x, 2, -6, -6);
        due.bought(x, 0, 1, 5);
        due.bought(x, 1, 6, 42);
        due.bought(x, 3, -6, -6);
        due.same("19 the bid stays", x.told(34), 0);
        due.does(x, ".....", 5);
        due.bought(x, 0, 1, 1);
        due.bought(x, 2, 6, 42);
        due.does(x, ".", 1);
        due.bought(x, 0, -6, -6);
    }

    private static void promise19Edges() {
        SilenceMinute x = new SilenceMinute();
        x.ride(0, 3, 3);
        x.ride(1, 3, 3);
        x.purse(0, 99);
        x.purse(1, 98);
        due.does(x, "B98", 1);
        due.bought(x, 0, 98, 98);
        due.does(x, "A98B99", 2);
        x.purse(1, 99);
        due.bought(x, 0, 99, 99);
        due.does(x, "A99", 1);
        due.bought(x, 1, -6, -6);
        x.tunnel(3, true);
        x.purse(1, 0);
        due.bought(x, 1, 1, 0);
        x.line(3);
        due.bought(x, 1, -6, -6);
    }

    private static void promise20Seats() {
        SilenceMinute x = Due.threeRide();
        due.seated(x, 0, 0, 27, 333);
        due.seated(x, 1, 0, 18, 10333);
        due.seated(x, 0, 1, 9, 333);
        due.seated(x, 1, 1, 0, -6);
        due.seated(x, 1 | 2 | 32, 0, 6, 12333);
        due.seated(x, 0, 4, 0, -6);
        due.seated(x, 4, 0, 27, 333);
        due.seated(x, 2, 32, 6, 11333);
        for (int t = 0; t < 6; t++) {
            x.ride(t, 0, 11);
        }
        due.seated(x, 0, 0, 729, 0);
        due.seated(x, 0, 32767, 3, 0);
        due.seated(x, 32767, 0, 0, -6);
        due.seated(x, 1 << 14, 0, 486, 1);
        due.seated(x, 1 << 9, 1 << 14, 162, 100);
        due.seated(x, 1 << 4 | 1 << 5 | 1 << 12, 0, 216, 1011);
        due.same("20 nobody moves", x.told(12), 0);
    }

    private static void promise20Edges() {
        SilenceMinute x = new SilenceMinute();
        due.seated(x, 0, 0, 1, 333333);
        due.seated(x, 32767, 0, 1, 333333);
        x.ride(0, 0, 4);
        x.ride(1, 5, 9);
        x.ride(5, 12, 20);
        due.seated(x, 0, 1, 0, -6);
        due.seated(x, 1, 0, 9, 3333);
        due.does(x, ".......", 7);
        due.seated(x, 0, 0, 9, 3333);
        x.line(21);
        due.seated(x, 0, 0, 27, 3330);
        x.ride(1, 0, 0);
        due.seated(x, 0, 1, 9, 3330);
        x.ride(1, 20, 20);
        due.seated(x, 0, 1 << 8, 9, 3330);
    }

    private static void promise21Word() {
        SilenceMinute x = Due.threeRide();
        due.same("21 word(0, 0)", x.word(0, 0), 7);
        due.same("21 word(0, 4)", x.word(0, 4), 7);
        due.same("21 word(0, 5)", x.word(0, 5), 1);
        due.same("21 word(0, 29)", x.word(0, 29), 1);
        due.same("21 one who does not ride", x.word(5, 0), 32);
        x.seat(1, 1);
        due.same("21 another compartment", x.word(0, 0), 5);
        x.ride(5, 8, 11);
        x.tunnel(8, true);
        due.same("21 passed on", x.word(0, 0), 37);
        x.ride(4, 12, 20);
        x.tunnel(12, true);
        due.same("21 behind the line", x.word(2, 0), 37);
        due.does(x, ".........", 9);
        due.same("21 whatever minute it is", x.word(0, 0), 37);
    }

    private static void promise22Heard() {
        SilenceMinute x = Due.threeRide();
        x.ride(5, 8, 11);
        x.tunnel(8, true);
        due.same("22 himself", x.heard(0, 7, 0), 7);
        due.same("22 one who does not ride himself", x.heard(4, 29, 4), 29);
        due.same("22 B", x.heard(0, 0, 1), 4);
        due.same("22 F, by B or C", x.heard(0, 0, 5), 8);
        due.same("22 D", x.heard(0, 0, 3), -6);
        due.same("22 too late", x.heard(0, 5, 2), -6);
        due.same("22 in that minute", x.heard(0, 4, 2), 4);
        x.line(8);
        due.same("22 the line ends", x.heard(0, 0, 5), -6);
    }

    private static void promise23Richest() {
        SilenceMinute x = Due.threeRide();
        due.rich(x, 0, 0, -6);
        due.does(x, "C04", 1);
        due.rich(x, 0, 44, 2);
        x.seat(2, 1);
        due.rich(x, 1, 44, 2);
        due.does(x, "A08", 1);
        due.rich(x, 1, 44, 2);
        x.purse(1, 24);
        due.does(x, "B06A10", 2);
        due.rich(x, 0, 74, 0);
        x.purse(0, 44);
        due.does(x, "A11", 1);
        due.rich(x, 0, 68, 0);
        x.seat(1, 2);
        due.rich(x, 0, 44, 0);
        due.does(x, ".", 1);
        due.rich(x, 1, 40, 2);
        x.ride(5, 11, 11);
        x.seat(5, 2);
        due.does(x, "F45", 1);
        due.rich(x, 2, 69, 5);
        due.does(x, "A00B00C00F01", 4);
        due.rich(x, 2, 1, 5);
    }
}
