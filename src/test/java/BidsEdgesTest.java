/** The edges that the document names for promises 19 to 23, a sentence each. */
public final class BidsEdgesTest {
    private static final int NONE = -6;
    private static final Due due = new Due("BidsEdgesTest");

    public static void main(String[] args) {
        buyForLeast();
        buyForMost();
        buyAgainstEquals();
        buyByHisPurse();
        buyWhoCanNotPay();
        buyWhileHeRides();
        buyWhoRidesNoMore();
        buyInTunnels();
        buyWhateverHeBids();
        buyLaterOn();
        seatsOfNobody();
        seatsOfEachTwo();
        seatsOfAll();
        seatsInOneMinute();
        seatsOfWhoDoesNotRide();
        seatsThatContradict();
        seatsRising();
        seatsWhateverTheyAre();
        wordFromMinuteOn();
        wordOfOneAlone();
        wordOfAll();
        wordWhereTheLineEnds();
        wordOfThoseWhoRideThere();
        wordFromThenOn();
        heardHimself();
        heardFirst();
        heardNever();
        richestOfNobody();
        richestOfSeveral();
        richestFromNowOn();
        richestTraveller();
        due.end();
    }

    private static void buyForLeast() {
        due.sentence("19 the least BID (1 to 99): 1");
        SilenceMinute x = Due.allRide(12);
        for (int t = 0; t < 6; t++) {
            due.bought(x, t, 1, 12);
        }
        due.does(x, "C01", 1);
        due.bought(x, 0, 1, 12);
        due.bought(x, 3, 2, 24);
    }

    private static void buyForMost() {
        due.sentence("19 the least BID (1 to 99): 99, and none");
        SilenceMinute x = Due.allRide(1);
        for (int t = 0; t < 6; t++) {
            x.purse(t, 999);
        }
        due.does(x, "C98", 1);
        due.bought(x, 3, 99, 99);
        due.bought(x, 0, 98, 98);
        due.does(x, "C99", 1);
        due.bought(x, 3, NONE, NONE);
        due.bought(x, 0, 99, 99);
        due.bought(x, 2, 1, 1);
    }

    private static void buyAgainstEquals() {
        due.sentence("19 he holds the silence (of several the least does)");
        SilenceMinute x = Due.allRide(2);
        due.does(x, "B07D07", 2);
        due.bought(x, 0, 7, 14);
        due.bought(x, 1, 7, 14);
        due.bought(x, 2, 8, 16);
        due.bought(x, 3, 8, 16);
        due.bought(x, 4, 8, 16);
    }

    private static void buyByHisPurse() {
        due.sentence("19 in each minute in which he rides: what he pays in all");
        SilenceMinute x = Due.allRide(10);
        due.does(x, "A06", 1);
        x.purse(5, 70);
        due.bought(x, 5, 7, 70);
        x.purse(5, 69);
        due.bought(x, 5, NONE, NONE);
        x.purse(5, 0);
        due.bought(x, 5, NONE, NONE);
        due.does(x, "A00", 1);
        due.bought(x, 5, NONE, NONE);
        x.purse(5, 9);
        due.bought(x, 5, NONE, NONE);
        x.purse(5, 10);
        due.bought(x, 5, 1, 10);
    }

    private static void buyWhoCanNotPay() {
        due.sentence("19 whose BID is not above their PURSE");
        SilenceMinute x = Due.allRide(2);
        due.does(x, "A20", 1);
        x.purse(0, 20);
        due.bought(x, 1, 21, 42);
        x.purse(0, 19);
        due.bought(x, 1, 1, 2);
    }

    private static void buyWhileHeRides() {
        due.sentence("19 in each minute, from now on, in which he rides");
        SilenceMinute x = Due.allRide(12);
        x.purse(0, 24);
        due.does(x, "A08", 1);
        x.ride(1, 3, 5);
        due.bought(x, 1, 1, 3);
        x.ride(1, 2, 5);
        due.bought(x, 1, 9, 36);
        x.ride(1, 11, 29);
        due.bought(x, 1, 1, 1);
    }

    private static void buyWhoRidesNoMore() {
        due.sentence("19 NONE: he rides no more");
        SilenceMinute x = new SilenceMinute();
        due.bought(x, 0, NONE, NONE);
        x.ride(0, 12, 20);
        due.bought(x, 0, NONE, NONE);
        x.ride(0, 2, 3);
        due.bought(x, 0, 1, 2);
        due.does(x, "...", 3);
        due.bought(x, 0, 1, 1);
        due.does(x, ".", 1);
        due.bought(x, 0, NONE, NONE);
        x.ride(0, 0, 29);
        due.does(x, ".......", 7);
        due.bought(x, 0, 1, 1);
        due.does(x, ".", 1);
        due.bought(x, 0, NONE, NONE);
    }

    private static void buyInTunnels() {
        due.sentence("19 and that is no TUNNEL");
        SilenceMinute x = Due.allRide(3);
        x.purse(0, 999);
        due.does(x, "A99", 1);
        due.bought(x, 1, NONE, NONE);
        x.tunnel(0, true);
        x.tunnel(1, true);
        due.bought(x, 0, 1, 1);
        due.bought(x, 1, NONE, NONE);
        x.tunnel(2, true);
        due.bought(x, 1, 1, 0);
        x.purse(1, 0);
        due.bought(x, 1, 1, 0);
    }

    private static void buyWhateverHeBids() {
        due.sentence("19 the least BID of a TRAVELLER, from now on: his own till now is none, and stays");
        SilenceMinute x = Due.allRide(5);
        due.does(x, "A40B03", 2);
        due.bought(x, 0, 3, 15);
        due.same("his bid", x.told(14), 40);
        due.same("his purse", x.told(13), 50);
    }

    private static void buyLaterOn() {
        due.sentence("19 from now on");
        SilenceMinute x = Due.allRide(12);
        x.purse(0, 22);
        due.does(x, "A02", 1);
        due.bought(x, 1, 3, 36);
        due.does(x, "...........", 11);
        due.same("A has paid all", x.told(13), 0);
        due.bought(x, 1, 1, 1);
    }

    private static void seatsOfNobody() {
        due.sentence("20 COMPARTMENTS for all who ride in some minute: nobody does");
        SilenceMinute x = new SilenceMinute();
        due.seated(x, 0, 0, 1, 333333);
        due.seated(x, 32767, 0, 1, 333333);
        due.seated(x, 0, 32767, 0, NONE);
        for (int bit = 0; bit < 15; bit++) {
            due.seated(x, 1 << bit, 0, 1, 333333);
            due.seated(x, 0, 1 << bit, 0, NONE);
        }
    }

    private static void seatsOfEachTwo() {
        due.sentence("20 bits: AB 0, AC 1, AD 2, .. BC 5, .. EF 14");
        String[] twos = {"AB", "AC", "AD", "AE", "AF", "BC", "BD", "BE", "BF", "CD", "CE", "CF", "DE", "DF", "EF"};
        for (int two = 0; two < twos.length; two++) {
            SilenceMinute x = new SilenceMinute();
            x.ride(twos[two].charAt(0) - 'A', 0, 0);
            x.ride(twos[two].charAt(1) - 'A', 0, 0);
            for (int bit = 0; bit < twos.length; bit++) {
                due.same(twos[two] + " apart by " + bit, x.seats(1 << bit, 0, 0), bit == two ? 6 : 9);
                due.same(twos[two] + " together by " + bit, x.seats(0, 1 << bit, 0), bit == two ? 3 : 0);
            }
        }
    }

    private static void seatsOfAll() {
        due.sentence("20 sets 0 to 32767: all ride");
        SilenceMinute x = Due.allRide(12);
        due.seated(x, 0, 0, 729, 0);
        due.seated(x, 0, 32767, 3, 0);
        due.seated(x, 32767, 0, 0, NONE);
        due.seated(x, 16384, 0, 486, 1);
        due.seated(x, 0, 16384, 243, 0);
        due.seated(x, 1, 0, 486, 10000);
        due.seated(x, 32766, 1, 0, NONE);
        x.ride(3, -1, 0);
        x.ride(4, -1, 0);
        x.ride(5, -1, 0);
        due.seated(x, 32767, 0, 6, 12333);
    }

    private static void seatsInOneMinute() {
        due.sentence("20 in one COMPARTMENT in one minute");
        SilenceMinute x = new SilenceMinute();
        x.ride(0, 0, 4);
        x.ride(1, 5, 9);
        due.seated(x, 1, 0, 9, 3333);
        due.seated(x, 0, 1, 0, NONE);
        x.ride(1, 4, 9);
        due.seated(x, 1, 0, 6, 13333);
        due.seated(x, 0, 1, 3, 3333);
        x.ride(0, 11, 20);
        x.ride(1, 11, 20);
        due.seated(x, 0, 1, 3, 3333);
        x.ride(0, 10, 12);
        x.ride(1, 12, 20);
        x.line(12);
        due.seated(x, 0, 1, 0, NONE);
        x.line(13);
        due.seated(x, 0, 1, 3, 3333);
    }

    private static void seatsOfWhoDoesNotRide() {
        due.sentence("20 3: he does not ride");
        for (int t = 0; t < 6; t++) {
            SilenceMinute x = Due.allRide(12);
            int place = 1;
            for (int behind = t + 1; behind < 6; behind++) {
                place *= 10;
            }
            x.ride(t, -1, 0);
            due.seated(x, 0, 0, 243, 3 * place);
            x.ride(t, 12, 29);
            due.seated(x, 0, 0, 243, 3 * place);
            x.ride(t, 11, 29);
            due.seated(x, 0, 0, 729, 0);
        }
    }

    private static void seatsThatContradict() {
        due.sentence("20 must not meet, and must meet");
        SilenceMinute x = Due.allRide(12);
        due.seated(x, 1, 1, 0, NONE);
        due.seated(x, 2, 1 | 32, 0, NONE);
        due.seated(x, 2, 1, 162, 1000);
    }

    private static void seatsRising() {
        due.sentence("20 the first (six digits, A's the highest; rising)");
        SilenceMinute x = Due.allRide(12);
        due.seated(x, 1 | 2 | 32, 0, 162, 12000);
        due.seated(x, 1 << 14 | 1 << 13 | 1 << 12, 0, 162, 12);
        due.seated(x, 31, 0, 96, 11111);
        due.seated(x, 31, 1 << 14, 48, 11111);
    }

    private static void seatsWhateverTheyAre() {
        due.sentence("20 who sits where, and the minute, do not count, and stay");
        SilenceMinute x = Due.allRide(12);
        x.seat(0, 2);
        x.seat(1, 1);
        due.does(x, "............", 12);
        due.seated(x, 0, 1, 243, 0);
        due.same("A", x.told(12), 2);
        due.same("B", x.told(22), 1);
    }

    private static void wordFromMinuteOn() {
        due.sentence("21 from minute m on (0 to 29); in each TUNNEL from m on");
        SilenceMinute x = Due.allRide(30);
        x.tunnel(7, true);
        due.same("the tunnel is to come", x.word(0, 6), 63);
        due.same("it is now", x.word(0, 7), 63);
        due.same("it has been", x.word(0, 8), 1);
        x.tunnel(7, false);
        x.tunnel(0, true);
        due.same("word(5, 0)", x.word(5, 0), 63);
        due.same("word(5, 1)", x.word(5, 1), 32);
        x.tunnel(29, true);
        due.same("word(5, 29)", x.word(5, 29), 63);
    }

    private static void wordOfOneAlone() {
        due.sentence("21 who knows it in the end: he himself");
        SilenceMinute x = new SilenceMinute();
        for (int t = 0; t < 6; t++) {
            due.same("nobody rides", x.word(t, 0), 1 << t);
            due.same("behind the line", x.word(t, 29), 1 << t);
        }
        SilenceMinute y = Due.allRide(12);
        for (int t = 0; t < 6; t++) {
            due.same("no tunnel", y.word(t, 0), 1 << t);
        }
    }

    private static void wordOfAll() {
        due.sentence("21 all who ride there do from then on");
        SilenceMinute x = Due.allRide(1);
        x.tunnel(0, true);
        for (int t = 0; t < 6; t++) {
            due.same("all", x.word(t, 0), 63);
        }
        x.ride(3, -1, 0);
        due.same("one who does not ride hears nothing", x.word(0, 0), 55);
        due.same("and tells nothing", x.word(3, 0), 8);
    }

    private static void wordWhereTheLineEnds() {
        due.sentence("21 in each TUNNEL: of the LINE");
        SilenceMinute x = Due.allRide(12);
        x.tunnel(12, true);
        due.same("behind the line", x.word(0, 0), 1);
        x.line(13);
        due.same("its last minute", x.word(0, 0), 63);
        due.same("its last minute is m", x.word(0, 12), 63);
        due.same("m behind it", x.word(0, 13), 1);
    }

    private static void wordOfThoseWhoRideThere() {
        due.sentence("21 in each COMPARTMENT, if somebody who rides there knows it");
        SilenceMinute x = Due.allRide(12);
        for (int t = 0; t < 6; t++) {
            x.seat(t, t / 2);
        }
        x.tunnel(3, true);
        int[] want = {3, 3, 12, 12, 48, 48};
        for (int t = 0; t < 6; t++) {
            due.same("two by two", x.word(t, 0), want[t]);
        }
        x.ride(1, 4, 9);
        due.same("B gets in too late", x.word(0, 0), 1);
        x.ride(1, 0, 2);
        due.same("B has got out", x.word(0, 0), 1);
        x.ride(1, 3, 3);
        due.same("B is there", x.word(0, 0), 3);
    }

    private static void wordFromThenOn() {
        due.sentence("21 passed on by those who stay to those who get in");
        SilenceMinute x = new SilenceMinute();
        x.tunnel(2, true);
        x.tunnel(5, true);
        x.ride(0, 0, 2);
        x.ride(1, 2, 5);
        x.ride(2, 5, 9);
        due.same("A to B to C", x.word(0, 0), 7);
        due.same("not back", x.word(2, 0), 6);
        x.ride(1, 2, 4);
        due.same("B does not stay", x.word(0, 0), 3);
        x.ride(1, 3, 5);
        due.same("B gets in too late", x.word(0, 0), 1);
    }

    private static void heardHimself() {
        due.sentence("22 m for himself");
        SilenceMinute x = Due.allRide(12);
        x.tunnel(3, true);
        for (int t = 0; t < 6; t++) {
            due.same("heard(" + t + ", 0, " + t + ")", x.heard(t, 0, t), 0);
            due.same("heard(" + t + ", 29, " + t + ")", x.heard(t, 29, t), 29);
        }
        x.ride(4, -1, 0);
        due.same("one who does not ride", x.heard(4, 7, 4), 7);
    }

    private static void heardFirst() {
        due.sentence("22 the minute in which a told one first does");
        SilenceMinute x = Due.allRide(30);
        x.tunnel(3, true);
        x.tunnel(9, true);
        x.tunnel(29, true);
        due.same("the first tunnel", x.heard(0, 0, 5), 3);
        due.same("the first is m", x.heard(0, 3, 5), 3);
        due.same("the second", x.heard(0, 4, 5), 9);
        due.same("the last", x.heard(0, 10, 5), 29);
        due.same("the last is m", x.heard(0, 29, 5), 29);
        x.tunnel(0, true);
        due.same("minute 0", x.heard(5, 0, 0), 0);
    }

    private static void heardNever() {
        due.sentence("22 NONE");
        SilenceMinute x = Due.allRide(12);
        due.same("no tunnel", x.heard(0, 0, 1), NONE);
        x.tunnel(3, true);
        due.same("too late", x.heard(0, 4, 1), NONE);
        due.same("m behind the line", x.heard(0, 29, 1), NONE);
        x.seat(1, 2);
        due.same("another compartment", x.heard(0, 0, 1), NONE);
        x.seat(1, 0);
        x.ride(1, -1, 0);
        due.same("he does not ride", x.heard(0, 0, 1), NONE);
        due.same("from one who does not ride", x.heard(1, 0, 0), NONE);
        x.ride(1, 0, 29);
        x.line(3);
        due.same("the line ends ahead of it", x.heard(0, 0, 1), NONE);
        x.line(4);
        due.same("its last minute", x.heard(0, 0, 1), 3);
    }

    private static void richestOfNobody() {
        due.sentence("23 NONE: nobody pays");
        SilenceMinute x = new SilenceMinute();
        due.rich(x, 0, 0, NONE);
        due.does(x, "A05", 1);
        due.rich(x, 0, 0, NONE);
        x.ride(0, 12, 20);
        due.rich(x, 0, 0, NONE);
        x.ride(0, 11, 20);
        due.rich(x, 0, 5, 0);
        x.tunnel(11, true);
        due.rich(x, 0, 0, NONE);
    }

    private static void richestOfSeveral() {
        due.sentence("23 of several the least");
        SilenceMinute x = Due.allRide(2);
        for (int t = 0; t < 6; t++) {
            x.seat(t, 2 - t / 2);
        }
        due.does(x, "A04C04E04", 3);
        due.rich(x, 0, 8, 0);
        due.does(x, "E00", 1);
        due.rich(x, 1, 8, 0);
        due.does(x, "C00", 1);
        due.rich(x, 2, 8, 0);
        due.does(x, "A00F04", 2);
        due.rich(x, 0, 8, 5);
        due.does(x, "D05", 1);
        due.rich(x, 1, 10, 3);
    }

    private static void richestFromNowOn() {
        due.sentence("23 from now on");
        SilenceMinute x = Due.allRide(3);
        x.seat(1, 1);
        due.does(x, "A09.A00B02", 4);
        due.rich(x, 1, 4, 1);
        due.does(x, ".", 1);
        due.rich(x, 1, 2, 1);
        due.does(x, ".", 1);
        due.rich(x, 0, 0, NONE);
        due.same("the guard", x.told(3), 13);
    }

    private static void richestTraveller() {
        due.sentence("23 the TRAVELLER who pays most");
        SilenceMinute x = Due.allRide(4);
        x.ride(0, 0, 1);
        x.ride(1, 2, 3);
        x.seat(2, 1);
        due.does(x, "A10B10C09", 3);
        due.rich(x, 0, 40, 2);
        due.does(x, "C05", 1);
        due.rich(x, 0, 40, 0);
        due.does(x, "B11", 1);
        due.rich(x, 0, 42, 1);
    }
}
