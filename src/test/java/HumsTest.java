/** Promises 24 to 33: hums, auctions, coughs, years, images. */
public final class HumsTest {
    private static final Due due = new Due("HumsTest");

    public static void main(String[] args) {
        promise24Seen();
        promise25Forget();
        promise26Hum();
        promise27Watch();
        promise28Auction();
        promise29Coughs();
        promise30Year();
        promise31Image();
        promise32Restore();
        promise33Told();
        due.end();
    }

    private static void promise24Seen() {
        SilenceMinute x = new SilenceMinute();
        for (int n = 1; n <= 8; n++) {
            due.same("24 seen", x.seen(n == 1 ? 29 : 0, n == 1 ? 5 : 0), n);
        }
        due.same("24 sights", x.told(5), 8);
    }

    private static void promise25Forget() {
        SilenceMinute x = Due.threeRide();
        due.same("25 none", x.forget(), 0);
        x.seen(0, 0);
        x.seen(0, 2);
        due.same("25 two", x.forget(), 2);
        due.same("25 gone", x.told(5), 0);
        due.same("25 all may be", x.hum(), 7);
    }

    private static void promise26Hum() {
        SilenceMinute x = Due.threeRide();
        due.same("26 all who ride", x.hum(), 7);
        x.ride(5, 12, 20);
        due.same("26 behind the line", x.hum(), 7);
        x.seen(3, 2);
        due.same("26 with C in 3", x.hum(), 3);
        x.seat(1, 1);
        due.same("26 B sits elsewhere", x.hum(), 1);
        x.seat(1, 0);
        x.seen(8, 2);
        due.same("26 with C in 8 too", x.hum(), 2);
        x.seen(8, 1);
        due.same("26 not himself", x.hum(), 0);
        x.forget();
        x.seen(11, 0);
        due.same("26 a told one did not ride", x.hum(), 0);
        x.forget();
        x.ride(4, 0, 29);
        x.seen(12, 5);
        due.same("26 behind the line, told", x.hum(), 0);
        x.line(13);
        due.same("26 the line reaches 12", x.hum(), 16);
    }

    private static void promise27Watch() {
        SilenceMinute x = Due.threeRide();
        due.watched(x, 0, 2);
        x.seen(0, 0);
        due.watched(x, 0, 1);
        x.seen(0, 2);
        due.watched(x, -6, -6);
        x.forget();
        for (int t = 0; t < 4; t++) {
            x.ride(t, 0, 11);
        }
        due.watched(x, 0, 4);
        x.seat(2, 2);
        x.seat(3, 2);
        due.watched(x, 0, 2);
        x.ride(1, 7, 8);
        x.seat(1, 2);
        x.seat(3, 0);
        due.watched(x, 0, 2);
        x.seat(3, 1);
        due.watched(x, 72, 2);
        due.does(x, "..........", 10);
        due.watched(x, 72, 2);
        x.line(7);
        due.watched(x, 0, 2);
        x.ride(2, -1, 0);
        x.ride(3, -1, 0);
        x.ride(0, 6, 29);
        due.watched(x, 0, 1);
        for (int t = 0; t < 6; t++) {
            x.ride(t, 0, 6);
            x.seat(t, 1);
        }
        due.watched(x, 0, 6);
    }

    private static void promise28Auction() {
        due.sold(0, 0, -6, -6);
        due.sold(1, 0, -6, -6);
        due.sold(2, 0, 0, 1);
        due.sold(2, 1, 0, 1);
        due.sold(2, 2, 0, 1);
        due.sold(3, 2, 0, 1);
        due.sold(3, 3, -6, -6);
        due.sold(20, 0, 0, 1);
        due.sold(20, 1, 0, 1);
        due.sold(5, 5, -6, -6);
        due.sold(0, 20, -6, -6);
        due.sold(20, 20, -6, -6);
        due.sold(20, 2, 0, 1);
        due.sold(20, 3, -6, -6);
    }

    private static void promise29Coughs() {
        SilenceMinute x = Due.threeRide();
        due.mean(x, 0, 5, 0, 1);
        due.does(x, "A05", 1);
        due.mean(x, 0, 0, 0, 1);
        due.mean(x, 0, 1, 8, 5);
        due.mean(x, 0, 5, 8, 1);
        due.mean(x, 0, 10, 16, 1);
        due.mean(x, 1, 10, 0, 1);
        x.fine(99);
        due.mean(x, 0, 1, 396, 5);
        due.mean(x, 0, 10, 792, 1);
        x.fine(5);
        due.mean(x, 0, 3, 12, 1);
        due.does(x, "...", 3);
        due.mean(x, 0, 1, 2, 1);
        x.fine(1);
        due.mean(x, 0, 7, 14, 5);
        x.ride(1, -1, 0);
        due.mean(x, 0, 3, 3, 5);
        due.does(x, "..", 2);
        due.mean(x, 0, 3, 3, 10);
        due.mean(x, 0, 5, 1, 2);
        due.mean(x, 0, 8, 4, 5);
        due.does(x, ".A00C01", 3);
        due.mean(x, 0, 10, 0, 1);
    }

    private static void promise30Year() {
        SilenceMinute x = Due.threeRide();
        due.years(x, 0, 1, 0, 0, 0);
        due.years(x, 77, 99, 65, 2, 12);
        due.years(x, 5, 40, 31, 0, 6);
        due.does(x, "A05.", 2);
        // x becomes 75 times 2 and 74, 224: by 8 nothing is left over.
        due.years(x, 2, 1, 5, 0, 2);
        // x becomes 75 times 3 and 74, 299: 3 is left over, B bids 4.
        due.years(x, 3, 1, 0, 0, 1);
        // x becomes 75 times 53 and 74, 4049: 1 is left over.
        due.years(x, 53, 1, 5, 0, 2);
        // x becomes 75 times 57 and 74, 4349: 5 is left over, 543 by 6 is D, who does not ride.
        due.years(x, 57, 1, 0, 0, 1);
        // x becomes 75 times 1 and 74, 149: 5 is left over, 18 by 6 is A, who holds it himself.
        due.years(x, 1, 1, 0, 0, 1);
        // x becomes 75 times 7 and 74, 599: 7 is left over, 74 by 6 is C, who coughs.
        due.years(x, 7, 1, 2, 2, 1);
        // x becomes 75 times 18 and 74, 1424, the minute passes; then 41337: 1 is left over, it passes again.
        due.years(x, 18, 2, 10, 0, 3);
        // x becomes 75 times 14 and 74, 1124: 4 is left over, 140 by 6 is C, who bids 17;
        // then 18837: 5 is left over, 2354 by 6 is C, who holds it now and coughs.
        due.years(x, 14, 2, 0, 0, 1);
        due.same("30 nothing is done", x.told(3), 5);
        due.same("30 it is still minute 1", x.told(2), 1);
    }

    private static void promise31Image() {
        SilenceMinute x = Due.threeRide();
        Due.write(x, "A05");
        String before = AllTold.stateOf(x);
        due.same("31 image(0)", x.image(0), 1);
        due.same("31 image(1)", x.image(1), 1);
        due.same("31 image(0) again", x.image(0), 1);
        due.truth("31 nothing else is changed", before.equals(AllTold.stateOf(x)));
    }

    private static void promise32Restore() {
        SilenceMinute x = Due.threeRide();
        x.seen(1, 0);
        String first = AllTold.stateOf(x);
        x.image(0);
        States.changeAll(x);
        String second = AllTold.stateOf(x);
        x.image(1);
        due.same("32 restore(0)", x.restore(0), 1);
        due.truth("32 it is as it was", first.equals(AllTold.stateOf(x)));
        x.forget();
        x.seen(0, 5);
        due.same("32 restore(1)", x.restore(1), 1);
        due.truth("32 it is as it was later", second.equals(AllTold.stateOf(x)));
        Due.write(x, "A1");
        due.same("32 restore(0) again", x.restore(0), 1);
        due.same("32 the pad stays", x.fault(), 2);
        x.wipe();
        due.truth("32 what was kept stays kept", first.equals(AllTold.stateOf(x)));
    }

    private static void promise33Told() {
        SilenceMinute x = new SilenceMinute();
        States.changeAll(x);
        Due.write(x, "A0");
        int[] want = {2, 20, 4, 19, 7, 1, 1 << 9};
        for (int what = 0; what < want.length; what++) {
            due.same("33 told(" + what + ")", x.told(what), want[what]);
        }
        int[] purses = {94, 93, 97, 103, 104, 105};
        for (int t = 0; t < 6; t++) {
            int at = 10 * (1 + t);
            due.same("33 from", x.told(at), t + 1);
            due.same("33 to", x.told(at + 1), t + 9);
            due.same("33 compartment", x.told(at + 2), (t + 1) % 3);
            due.same("33 purse of " + t, x.told(at + 3), purses[t]);
            due.same("33 bid", x.told(at + 4), t + 3);
        }
    }
}
