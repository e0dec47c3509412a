/** Promises 11 to 18: rides that are judged and done, and what is forecast. */
public final class RidesTest {
    private static final Due due = new Due("RidesTest");

    public static void main(String[] args) {
        promise11Judge();
        promise12Done();
        promise13Behind();
        promise13Fines();
        promise14Holds();
        promise15Hears();
        promise16Forecast();
        promise17Rests();
        promise18Talks();
        due.end();
    }

    private static void promise11Judge() {
        SilenceMinute x = Due.threeRide();
        due.judged(x, "", -6, -6);
        due.judged(x, "AcAsAh", -6, -6);
        due.judged(x, "Bc", 0, 1);
        due.judged(x, "Bs", 0, 1);
        due.judged(x, "Bh", 0, 1);
        due.judged(x, "B99", -6, -6);
        due.judged(x, "A05Cs", 1, 2);
        due.judged(x, "A05Bs", 1, 1);
        due.judged(x, "A05CcChAs", -6, -6);
        due.judged(x, "A05..Bs", 3, 2);
        due.judged(x, "A05....BsCsAs", -6, -6);
        due.judged(x, "A51Cs", -6, -6);
        due.judged(x, "............", -6, -6);
        due.judged(x, ".............", 12, 3);
        due.judged(x, "............Cc.", 12, 1);
        due.judged(x, "............C44.", 13, 3);
        due.judged(x, "......As", 6, 1);
        x.ride(2, 0, 29);
        due.judged(x, "............Ch", 12, 1);
        due.judged(x, "BcG", -5, -5);
        due.judged(x, "BcA", -5, -5);
        Due.write(x, "A05Cs");
        x.judge(0);
        due.same("11 nothing is done", x.told(14), 0);
        due.same("11 signs stay", x.told(0), 5);
    }

    private static void promise12Done() {
        SilenceMinute x = Due.threeRide();
        due.does(x, "", 0);
        due.does(x, "A05CcAh..", 5);
        due.same("12 the pad is empty", x.told(0), 0);
        due.same("12 bid", x.told(14), 5);
        due.same("12 purse", x.told(13), 38);
        due.same("12 guard", x.told(3), 12);
        due.same("12 minute", x.told(2), 2);
        Due.write(x, ".Bs.");
        due.same("12 an act that can not be", x.done(), -5);
        due.same("12 signs stay", x.told(0), 4);
        due.does(x, "A00.A07.", 4);
        due.same("12 a bid of 0 pays nothing", x.told(3), 19);
    }

    private static void promise13Behind() {
        SilenceMinute x = Due.threeRide();
        due.does(x, "A05.", 2);
        Due.write(x, "Cc.C06Ac.");
        int[] want = {38, 50, 42, 50, 50, 50, 20, 3, 4};
        for (int what = 0; what < want.length; what++) {
            due.same("13 behind(" + what + ")", x.behind(what), want[what]);
        }
        due.same("13 nothing is done", x.told(3), 5);
        Due.write(x, "Fc");
        due.same("13 an act that can not be", x.behind(7), -5);
    }

    private static void promise13Fines() {
        SilenceMinute x = Due.threeRide();
        x.fine(30);
        Due.write(x, "A05CcCcCc");
        due.same("13 the rest of the purse, then nobody holds", x.behind(0), 0);
        due.same("13 fines", x.behind(8), 50);
        Due.write(x, "A05AcAc");
        due.same("13 the holder's own cough is free", x.behind(8), 0);
        Due.write(x, "A05....CcBc");
        due.same("13 in a tunnel nobody is fined", x.behind(8), 0);
        x.seat(2, 1);
        Due.write(x, "A05Cc");
        due.same("13 another compartment", x.behind(8), 0);
    }

    private static void promise14Holds() {
        SilenceMinute x = Due.threeRide();
        due.same("14 nobody bids", x.holds(0), -6);
        due.does(x, "A05B99C05", 3);
        due.same("14 the least of equals; B does not ride yet", x.holds(0), 0);
        due.same("14 another compartment", x.holds(1), -6);
        due.does(x, "C06", 1);
        due.same("14 who bids most", x.holds(0), 2);
        x.purse(2, 6);
        due.same("14 just enough", x.holds(0), 2);
        x.purse(2, 5);
        due.same("14 more than his purse", x.holds(0), 0);
        x.seat(0, 2);
        due.same("14 he moved", x.holds(2), 0);
        due.same("14 nobody is left", x.holds(0), -6);
        due.does(x, "....", 4);
        due.same("14 a tunnel", x.holds(2), -6);
        x.ride(0, 0, 29);
        due.does(x, "A01........", 9);
        due.same("14 the end", x.holds(2), -6);
    }

    private static void promise15Hears() {
        SilenceMinute x = Due.threeRide();
        due.same("15 A", x.hears(0), 4);
        due.same("15 B does not ride", x.hears(1), -6);
        due.does(x, "C01", 1);
        due.same("15 another one holds it", x.hears(0), -6);
        due.same("15 who holds it", x.hears(2), 1);
        due.does(x, "..", 2);
        due.same("15 two hear", x.hears(2), 3);
        x.seat(1, 1);
        due.same("15 alone", x.hears(1), 0);
        due.does(x, "..", 2);
        due.same("15 a tunnel", x.hears(0), 4);
        x.ride(2, 0, 29);
        due.does(x, "........", 8);
        due.same("15 the end", x.hears(2), -6);
    }

    private static void promise16Forecast() {
        SilenceMinute x = Due.threeRide();
        due.does(x, "A20C05", 2);
        int[] want = {0, 0, 2, 2, -6, 2, 2, 2, 2, 2, 2, 2, -6};
        for (int d = 0; d < want.length; d++) {
            due.same("16 forecast(0, " + d + ")", x.forecast(0, d), want[d]);
        }
        due.same("16 at the end", x.forecast(0, 30), -6);
        x.ride(2, 0, 29);
        due.same("16 at the end, who would ride on", x.forecast(0, 12), -6);
        due.same("16 another compartment", x.forecast(1, 0), -6);
        due.does(x, ".", 1);
        due.same("16 from now on", x.forecast(0, 1), 2);
        x.line(30);
        x.ride(3, 29, 29);
        x.seat(3, 2);
        due.does(x, "D01", 1);
        due.same("16 the last minute", x.forecast(2, 29), 3);
        due.same("16 behind it", x.forecast(2, 30), -6);
    }

    private static void promise17Rests() {
        SilenceMinute x = Due.threeRide();
        due.does(x, "A20C05", 2);
        due.same("17 A", x.rests(0), 10);
        due.same("17 B", x.rests(1), 50);
        due.same("17 C", x.rests(2), 5);
        due.same("17 nothing is done", x.told(13), 50);
        due.does(x, "............", 12);
        due.same("17 at the end", x.rests(2), 5);
    }

    private static void promise18Talks() {
        SilenceMinute x = Due.threeRide();
        due.same("18 nobody bids", x.talks(0, 1), 4);
        due.does(x, "A05", 1);
        due.same("18 the tunnel alone", x.talks(2, 0), 1);
        due.same("18 who holds it", x.talks(0, 2), 6);
        due.same("18 behind him too", x.talks(2, 1), 5);
        due.same("18 one who does not ride", x.talks(0, 3), 0);
        due.same("18 one does not ride", x.talks(3, 0), 0);
        x.seat(1, 1);
        due.same("18 another compartment", x.talks(2, 1), 0);
        x.seat(1, 0);
        due.does(x, "...", 3);
        due.same("18 from now on", x.talks(0, 1), 3);
    }
}
