/** The edges that the document names for promises 24 to 33, a sentence each. */
public final class HumsEdgesTest {
    private static final int NONE = -6;
    private static final Due due = new Due("HumsEdgesTest");

    public static void main(String[] args) {
        eightSights();
        sightsOfAnyMinute();
        sightsTwice();
        forgetNoneAndEight();
        humOfNobodyAndAll();
        humOfThoseWhoRide();
        humOfSomeOtherOne();
        humInHisCompartmentThen();
        humNobodyIfHeDidNotRide();
        humTheSameAllTimes();
        humOfEightSights();
        humInATunnel();
        watchNobody();
        watchOne();
        watchAll();
        watchTheFirst();
        watchTheLastPlace();
        watchTheLineAlone();
        watchWhateverMinuteItIs();
        auctionOfEachWorth();
        auctionLeavesOffIfTheSame();
        auctionTwentyAtMost();
        coughsOfNoTenthsAndTen();
        coughsInLowestTerms();
        coughsWithAHolder();
        coughsOfEachOtherOne();
        coughsPursesBeingEnough();
        coughsAtMost();
        yearOfOneAct();
        yearOfTheLastSeed();
        yearOfMostActs();
        yearAtTheEnd();
        yearFromAllAsItIs();
        yearOfFines();
        yearNothingIsDone();
        imagesOfBothNumbers();
        imageOverAnImage();
        imageOfAllButThePad();
        imageOfSights();
        restoreAgain();
        toldOfEachNumber();
        toldOfEachTraveller();
        due.end();
    }

    private static void eightSights() {
        due.sentence("24 SIGHTS, 8 at most");
        SilenceMinute x = Due.allRide(12);
        for (int n = 1; n <= 8; n++) {
            due.same("seen, " + n, x.seen(n, 0), n);
            due.same("sights", x.told(5), n);
        }
        due.same("one more", x.seen(9, 0), -4);
        due.same("sights still", x.told(5), 8);
        due.same("forget()", x.forget(), 8);
        due.same("room again", x.seen(9, 0), 1);
    }

    private static void sightsOfAnyMinute() {
        due.sentence("24 in a minute (0 to 29), whatever the LINE; a told TRAVELLER");
        SilenceMinute x = new SilenceMinute();
        x.line(1);
        due.same("seen(0, 0)", x.seen(0, 0), 1);
        due.same("seen(29, 5)", x.seen(29, 5), 2);
        due.same("seen(1, 5), behind the line", x.seen(1, 5), 3);
    }

    private static void sightsTwice() {
        due.sentence("24 a SIGHT more: how many");
        SilenceMinute x = Due.allRide(12);
        due.same("a sight", x.seen(3, 2), 1);
        due.same("the same again", x.seen(3, 2), 2);
        due.same("hum()", x.hum(), 59);
    }

    private static void forgetNoneAndEight() {
        due.sentence("25 SIGHTS go: how many there were");
        SilenceMinute x = Due.allRide(12);
        due.same("none", x.forget(), 0);
        x.seen(0, 0);
        due.same("one", x.forget(), 1);
        for (int n = 0; n < 8; n++) {
            x.seen(n, n % 6);
        }
        due.same("all were told", x.hum(), 0);
        due.same("eight", x.forget(), 8);
        due.same("none again", x.forget(), 0);
        due.same("all may be again", x.hum(), 63);
    }

    private static void humOfNobodyAndAll() {
        due.sentence("26 HUM, as bits: no SIGHTS");
        SilenceMinute x = new SilenceMinute();
        due.same("nobody rides", x.hum(), 0);
        for (int t = 0; t < 6; t++) {
            x.ride(t, 0, 0);
            due.same("all who ride", x.hum(), (2 << t) - 1);
        }
    }

    private static void humOfThoseWhoRide() {
        due.sentence("26 those who ride in some minute of the LINE");
        SilenceMinute x = new SilenceMinute();
        x.ride(0, 11, 20);
        x.ride(1, 12, 20);
        x.ride(2, 29, 29);
        due.same("A alone reaches it", x.hum(), 1);
        x.line(13);
        due.same("B too", x.hum(), 3);
        x.line(30);
        due.same("C too", x.hum(), 7);
        x.line(1);
        due.same("nobody", x.hum(), 0);
    }

    private static void humOfSomeOtherOne() {
        due.sentence("26 a hum of some other one");
        for (int t = 0; t < 6; t++) {
            SilenceMinute x = Due.allRide(12);
            x.seen(0, t);
            due.same("not " + t, x.hum(), 63 & ~(1 << t));
        }
        SilenceMinute x = new SilenceMinute();
        x.ride(3, 0, 11);
        x.seen(0, 3);
        due.same("he rode alone", x.hum(), 0);
    }

    private static void humInHisCompartmentThen() {
        due.sentence("26 who rode in his COMPARTMENT then");
        SilenceMinute x = Due.allRide(12);
        x.seen(5, 0);
        x.seat(1, 1);
        x.seat(2, 2);
        x.ride(3, 0, 4);
        x.ride(4, 6, 11);
        due.same("F alone", x.hum(), 32);
        x.ride(3, 0, 5);
        due.same("D's last minute", x.hum(), 40);
        x.ride(4, 5, 11);
        due.same("E's first minute", x.hum(), 56);
        x.seat(0, 2);
        due.same("A sits with C", x.hum(), 4);
    }

    private static void humNobodyIfHeDidNotRide() {
        due.sentence("26 nobody, if a told one did not ride then");
        int[] minutes = {2, 3, 6, 7, 12, 29};
        int[] want = {0, 62, 62, 0, 0, 0};
        for (int i = 0; i < minutes.length; i++) {
            SilenceMinute x = Due.allRide(12);
            x.ride(0, 3, 6);
            x.seen(minutes[i], 0);
            due.same("in minute " + minutes[i], x.hum(), want[i]);
        }
        SilenceMinute x = Due.allRide(12);
        x.seen(11, 0);
        due.same("the last minute", x.hum(), 62);
        x.seen(12, 0);
        due.same("the end", x.hum(), 0);
        x.line(13);
        due.same("the line reaches it", x.hum(), 62);
    }

    private static void humTheSameAllTimes() {
        due.sentence("26 the same all times");
        SilenceMinute x = Due.allRide(12);
        x.ride(1, 0, 5);
        x.ride(2, 6, 11);
        x.seen(5, 0);
        due.same("C was not there", x.hum(), 58);
        x.seen(6, 3);
        due.same("nor B, nor who was fined", x.hum(), 48);
        x.seen(7, 4);
        x.seen(8, 5);
        due.same("nobody is left", x.hum(), 0);
    }

    private static void humOfEightSights() {
        due.sentence("26 of 8 SIGHTS");
        SilenceMinute x = Due.allRide(12);
        for (int n = 0; n < 7; n++) {
            x.seen(n, 0);
        }
        due.same("seven", x.hum(), 62);
        x.seen(7, 1);
        due.same("the eighth counts", x.hum(), 60);
    }

    private static void humInATunnel() {
        due.sentence("26 in a minute (0 to 29): a TUNNEL too, and whoever held the silence then");
        SilenceMinute x = Due.threeRide();
        x.seen(4, 2);
        due.same("minute 4 is a tunnel", x.hum(), 3);
        x.tunnel(4, false);
        due.same("it is none any more", x.hum(), 3);
        due.does(x, "A05", 1);
        due.same("A would hold it", x.hum(), 3);
    }

    private static void watchNobody() {
        due.sentence("27 NONE: nobody may be");
        SilenceMinute x = new SilenceMinute();
        due.watched(x, NONE, NONE);
        x.ride(0, 12, 20);
        due.watched(x, NONE, NONE);
        x.ride(0, 11, 20);
        due.watched(x, 0, 1);
        x.seen(11, 0);
        due.watched(x, NONE, NONE);
    }

    private static void watchOne() {
        due.sentence("27 whether he rides there then or not: one is left in any place");
        SilenceMinute x = new SilenceMinute();
        x.ride(4, 7, 8);
        x.seat(4, 2);
        due.watched(x, 0, 1);
        x.line(8);
        due.watched(x, 0, 1);
    }

    private static void watchAll() {
        due.sentence("27 fewest are left at the most: all, where nothing parts them");
        SilenceMinute x = Due.allRide(30);
        due.watched(x, 0, 6);
        x.seat(0, 1);
        due.watched(x, 0, 5);
        x.seat(1, 1);
        due.watched(x, 0, 4);
        x.seat(2, 1);
        due.watched(x, 0, 3);
    }

    private static void watchTheFirst() {
        due.sentence("27 the first (10 times the minute and the COMPARTMENT)");
        SilenceMinute x = new SilenceMinute();
        x.ride(0, 3, 4);
        x.ride(1, 3, 4);
        x.ride(2, 4, 4);
        x.ride(3, 4, 4);
        x.seat(2, 1);
        x.seat(3, 2);
        due.watched(x, 30, 2);
        x.seat(0, 2);
        x.seat(1, 2);
        due.watched(x, 32, 2);
        x.seat(1, 1);
        due.watched(x, 41, 2);
        x.seat(2, 0);
        due.watched(x, 42, 2);
    }

    private static void watchTheLastPlace() {
        due.sentence("27 the minute of the LINE and the COMPARTMENT: the last of both");
        SilenceMinute x = new SilenceMinute();
        x.line(30);
        x.ride(0, 0, 29);
        x.seat(0, 2);
        for (int t = 1; t < 5; t++) {
            x.ride(t, 29, 29);
        }
        x.seat(1, 2);
        x.seat(2, 2);
        x.seat(4, 1);
        x.ride(5, 28, 28);
        due.watched(x, 292, 3);
    }

    private static void watchTheLineAlone() {
        due.sentence("27 the minute of the LINE");
        SilenceMinute x = new SilenceMinute();
        x.ride(0, 0, 29);
        x.ride(1, 0, 11);
        due.watched(x, 0, 2);
        x.line(13);
        due.watched(x, 120, 1);
    }

    private static void watchWhateverMinuteItIs() {
        due.sentence("27 of those who may be, by SIGHTS, whatever minute it is");
        SilenceMinute x = Due.threeRide();
        due.does(x, "............", 12);
        due.watched(x, 0, 2);
        x.seen(3, 2);
        due.watched(x, 0, 1);
        x.seen(9, 2);
        due.watched(x, 0, 1);
        x.seen(10, 2);
        due.watched(x, NONE, NONE);
    }

    /**
     * To go on costs 2 more than to leave off, so nobody does it for a worth of 2. The last word, 20, is the
     * second one's: if it is worth more to him, he says it, and so goes on all the way, and the first one leaves
     * off at once. If not, the first one has it for 1, if it is worth more than that to him.
     */
    private static void auctionOfEachWorth() {
        due.sentence("28 worth so much (0 to 20 each)");
        for (int first = 0; first <= 20; first++) {
            for (int second = 0; second <= 20; second++) {
                boolean begins = second <= 2 && first >= 2;
                due.sold(first, second, begins ? 0 : NONE, begins ? 1 : NONE);
            }
        }
    }

    private static void auctionLeavesOffIfTheSame() {
        due.sentence("28 rather leaves off, if it is the same; NONE: he leaves off at once");
        due.sold(1, 0, NONE, NONE);
        due.sold(2, 0, 0, 1);
        due.sold(2, 2, 0, 1);
        due.sold(0, 0, NONE, NONE);
    }

    private static void auctionTwentyAtMost() {
        due.sentence("28 1 at first, 20 at most");
        due.sold(20, 2, 0, 1);
        due.sold(20, 3, NONE, NONE);
        due.sold(20, 20, NONE, NONE);
        due.sold(20, 0, 0, 1);
        due.sold(0, 20, NONE, NONE);
    }

    private static void coughsOfNoTenthsAndTen() {
        due.sentence("29 coughs once with t tenths (0 to 10)");
        SilenceMinute x = Due.threeRide();
        due.does(x, "A05", 1);
        due.mean(x, 0, 0, 0, 1);
        due.mean(x, 0, 10, 16, 1);
        due.mean(x, 0, 1, 8, 5);
        due.mean(x, 0, 9, 72, 5);
    }

    private static void coughsInLowestTerms() {
        due.sentence("29 fractions are told in lowest terms");
        SilenceMinute x = Due.allRide(1);
        x.fine(1);
        for (int t = 2; t < 6; t++) {
            x.ride(t, -1, 0);
        }
        due.does(x, "A01", 1);
        int[] upper = {0, 1, 1, 3, 2, 1, 3, 7, 4, 9, 1};
        int[] lower = {1, 10, 5, 10, 5, 2, 5, 10, 5, 10, 1};
        for (int t = 0; t <= 10; t++) {
            due.mean(x, 0, t, upper[t], lower[t]);
        }
        x.fine(50);
        due.mean(x, 0, 1, 5, 1);
        x.fine(25);
        due.mean(x, 0, 1, 5, 2);
        x.fine(0);
        due.mean(x, 0, 7, 0, 1);
    }

    private static void coughsWithAHolder() {
        due.sentence("29 in each minute, from now on, with a holder (as FORECAST)");
        SilenceMinute x = Due.allRide(3);
        due.mean(x, 0, 10, 0, 1);
        due.does(x, "F01", 1);
        due.mean(x, 0, 10, 30, 1);
        x.tunnel(1, true);
        due.mean(x, 0, 10, 20, 1);
        x.purse(5, 1);
        due.mean(x, 0, 10, 10, 1);
        due.does(x, ".", 1);
        due.mean(x, 0, 10, 0, 1);
        x.purse(5, 9);
        due.mean(x, 0, 10, 10, 1);
        due.does(x, "..", 2);
        due.mean(x, 0, 10, 0, 1);
    }

    private static void coughsOfEachOtherOne() {
        due.sentence("29 each other one who rides there");
        SilenceMinute x = Due.allRide(1);
        x.fine(1);
        due.does(x, "A01", 1);
        for (int t = 5; t >= 1; t--) {
            due.mean(x, 0, 10, t, 1);
            x.seat(t, 2);
        }
        due.mean(x, 0, 10, 0, 1);
        due.mean(x, 1, 10, 0, 1);
        due.does(x, "B01", 1);
        due.mean(x, 2, 10, 4, 1);
    }

    private static void coughsPursesBeingEnough() {
        due.sentence("29 PURSES being enough");
        SilenceMinute x = Due.allRide(2);
        x.fine(99);
        x.purse(0, 10);
        due.does(x, "A05", 1);
        due.mean(x, 0, 10, 990, 1);
        due.same("nothing is done", x.told(13), 10);
    }

    private static void coughsAtMost() {
        due.sentence("29 the FINES in the mean, all together: the most that can be");
        SilenceMinute x = Due.allRide(30);
        x.fine(99);
        due.does(x, "A01", 1);
        due.mean(x, 0, 10, 14850, 1);
        due.mean(x, 0, 1, 1485, 1);
        x.tunnel(29, true);
        due.mean(x, 0, 3, 8613, 2);
    }

    private static void yearOfOneAct() {
        due.sentence("30 m ACTS (1 to 99): one; by x left over by 8: 0, 1 the minute passes, 2, 3, 4 bids, else coughs");
        SilenceMinute x = Due.allRide(12);
        due.does(x, "B05", 1);
        // x becomes 224, 299, 374, 449, 524, 599, 674, 749 of the seeds 2 to 9: 0, 3, 6, 1, 4, 7, 2, 5 are left over.
        due.years(x, 2, 1, 5, 0, 1);
        due.years(x, 3, 1, 0, 0, 0);
        due.years(x, 4, 1, 2, 2, 0);
        due.years(x, 5, 1, 5, 0, 1);
        due.years(x, 6, 1, 0, 0, 0);
        due.years(x, 7, 1, 2, 2, 0);
        due.years(x, 8, 1, 0, 0, 0);
        due.years(x, 9, 1, 2, 2, 0);
    }

    private static void yearOfTheLastSeed() {
        due.sentence("30 a seed (0 to 9999); (75 x and 74) left over by 65537");
        SilenceMinute x = Due.allRide(12);
        // x becomes 74: 2 is left over, D bids 1; then 5624: 0 is left over, the minute passes.
        due.years(x, 0, 1, 0, 0, 0);
        due.years(x, 0, 2, 1, 0, 1);
        // x becomes 29092: A bids 14; 19253: A coughs; 2235: D bids 14; 36625: the minute passes.
        due.years(x, 9999, 3, 0, 0, 0);
        due.years(x, 9999, 4, 14, 0, 1);
        x.ride(0, -1, 0);
        x.purse(3, 13);
        due.years(x, 9999, 4, 0, 0, 1);
    }

    private static void yearOfMostActs() {
        due.sentence("30 m ACTS (1 to 99): 99");
        SilenceMinute x = Due.threeRide();
        due.years(x, 77, 99, 65, 2, 12);
        SilenceMinute y = Due.allRide(30);
        for (int t = 0; t < 6; t++) {
            y.purse(t, 0);
        }
        // Of the first 98 and 99 draws of seed 1 so many pass the minute.
        due.years(y, 1, 98, 0, 0, passes(1, 98));
        due.years(y, 1, 99, 0, 0, passes(1, 99));
    }

    private static int passes(int seed, int m) {
        long x = seed;
        int many = 0;
        for (int act = 0; act < m; act++) {
            x = (75 * x + 74) % 65537;
            many += x % 8 <= 1 ? 1 : 0;
        }
        return Math.min(many, 30);
    }

    private static void yearAtTheEnd() {
        due.sentence("30 each if that can be");
        SilenceMinute x = Due.allRide(1);
        due.does(x, "B05", 1);
        due.years(x, 2, 1, 5, 0, 1);
        due.does(x, ".", 1);
        // The minute can not pass, nobody rides who could cough.
        due.years(x, 2, 1, 0, 0, 1);
        due.years(x, 7, 1, 0, 0, 1);
        due.years(x, 77, 99, 0, 0, 1);
    }

    private static void yearFromAllAsItIs() {
        due.sentence("30 from all as it is: the minute, TUNNELS, COMPARTMENTS, BIDS, PURSES");
        SilenceMinute x = Due.allRide(12);
        x.tunnel(1, true);
        due.does(x, "B05.", 2);
        // By seed 2 the minute passes, by seed 7 C coughs: in a tunnel, where nobody holds the silence.
        due.years(x, 2, 1, 0, 0, 2);
        due.years(x, 7, 1, 0, 0, 1);
        x.tunnel(1, false);
        due.years(x, 2, 1, 5, 0, 2);
        due.years(x, 7, 1, 2, 2, 1);
        x.seat(2, 1);
        due.years(x, 7, 1, 0, 0, 1);
        x.seat(1, 1);
        due.years(x, 7, 1, 2, 2, 1);
        x.purse(1, 4);
        due.years(x, 2, 1, 0, 0, 2);
        due.years(x, 7, 1, 0, 0, 1);
        due.does(x, "B04", 1);
        due.years(x, 2, 1, 4, 0, 2);
        Due.write(x, "....");
        due.years(x, 2, 1, 4, 0, 2);
    }

    private static void yearOfFines() {
        due.sentence("30 what the GUARD has more; FINES that were paid, together");
        SilenceMinute x = Due.allRide(12);
        due.does(x, "B05.", 2);
        due.same("what he has till now", x.told(3), 5);
        // x becomes 599: 7 is left over, 74 by 6 is C, who coughs.
        due.years(x, 7, 1, 2, 2, 1);
        x.fine(99);
        due.years(x, 7, 1, 45, 45, 1);
        x.fine(0);
        due.years(x, 7, 1, 0, 0, 1);
    }

    private static void yearNothingIsDone() {
        due.sentence("30 Nothing is DONE in fact");
        SilenceMinute x = Due.allRide(12);
        due.does(x, "B05.", 2);
        Due.write(x, "A1");
        String before = AllTold.stateOf(x);
        for (int seed = 0; seed < 20; seed++) {
            x.year(seed, 99, 0);
        }
        due.truth("all is as it was", before.equals(AllTold.stateOf(x)));
    }

    private static void imagesOfBothNumbers() {
        due.sentence("31 an IMAGE (0, 1): 1");
        SilenceMinute x = new SilenceMinute();
        x.fine(10);
        due.same("image(0)", x.image(0), 1);
        x.fine(11);
        due.same("restore(1), not kept", x.restore(1), -3);
        due.same("image(1)", x.image(1), 1);
        x.fine(12);
        due.same("restore(0)", x.restore(0), 1);
        due.same("the first", x.told(4), 10);
        due.same("restore(1)", x.restore(1), 1);
        due.same("the second", x.told(4), 11);
    }

    private static void imageOverAnImage() {
        due.sentence("31 kept in an IMAGE: the last one that was");
        SilenceMinute x = new SilenceMinute();
        x.fine(10);
        x.image(0);
        x.fine(11);
        x.image(0);
        x.fine(12);
        due.same("restore(0)", x.restore(0), 1);
        due.same("the later one", x.told(4), 11);
        due.same("the other number is still not kept", x.restore(1), -3);
    }

    private static void imageOfAllButThePad() {
        due.sentence("31 all but the PAD is kept; 32 it is as it was when it was kept");
        SilenceMinute x = new SilenceMinute();
        x.image(0);
        String first = AllTold.stateOf(x);
        States.changeAll(x);
        String second = AllTold.stateOf(x);
        x.image(1);
        x.restore(0);
        due.truth("a new object again", first.equals(AllTold.stateOf(x)));
        x.restore(1);
        due.truth("the later one again", second.equals(AllTold.stateOf(x)));
        Due.write(x, "G");
        due.same("restore(0)", x.restore(0), 1);
        due.same("the pad's sign stays", x.told(0), 1);
        due.same("its fault stays", x.fault(), 0);
        x.wipe();
        due.same("restore(1)", x.restore(1), 1);
        due.same("the pad stays empty", x.told(0), 0);
    }

    private static void imageOfSights() {
        due.sentence("31 all is kept: 8 SIGHTS too");
        SilenceMinute x = Due.allRide(12);
        for (int n = 0; n < 8; n++) {
            x.seen(n, n == 7 ? 5 : 0);
        }
        x.image(0);
        x.forget();
        x.seen(0, 4);
        due.same("restore(0)", x.restore(0), 1);
        due.same("sights", x.told(5), 8);
        due.same("each as it was", x.hum(), 30);
        due.same("full", x.seen(0, 0), -4);
        SilenceMinute y = Due.threeRide();
        y.seen(0, 2);
        y.image(1);
        y.forget();
        y.seen(9, 0);
        due.same("restore(1)", y.restore(1), 1);
        due.same("its minute and its traveller", y.hum(), 1);
        y.forget();
        y.seen(9, 2);
        due.same("restore(1) again", y.restore(1), 1);
        due.same("its minute, of the same traveller", y.hum(), 1);
    }

    private static void restoreAgain() {
        due.sentence("32 it is as it was when it was kept, as often as one likes");
        SilenceMinute x = Due.threeRide();
        x.image(0);
        for (int n = 0; n < 3; n++) {
            due.does(x, "A05Cc...", 5);
            due.same("the guard", x.told(3), 17);
            due.same("restore(0)", x.restore(0), 1);
            due.same("the guard again", x.told(3), 0);
            due.same("the minute", x.told(2), 0);
            due.same("the bid", x.told(14), 0);
        }
    }

    private static void toldOfEachNumber() {
        due.sentence("33 0 to 6; 10 times (1 and a TRAVELLER) and 0 to 4; OUTSIDE");
        SilenceMinute x = Due.allRide(12);
        for (int what = -70; what <= 130; what++) {
            boolean ofTraveller = what >= 10 && what <= 64 && what % 10 <= 4;
            boolean told = what >= 0 && what <= 6 || ofTraveller;
            due.truth("told(" + what + ")", x.told(what) == -2 != told);
        }
    }

    private static void toldOfEachTraveller() {
        due.sentence("33 0 from (NONE: he does not ride), 1 to, 2 the COMPARTMENT, 3 PURSE, 4 BID");
        for (int t = 0; t < 6; t++) {
            SilenceMinute x = new SilenceMinute();
            int at = 10 * (t + 1);
            due.same("from, at first", x.told(at), NONE);
            x.ride(t, 0, 29);
            due.same("from", x.told(at), 0);
            due.same("to", x.told(at + 1), 29);
            x.seat(t, 2);
            due.same("compartment", x.told(at + 2), 2);
            x.purse(t, 999);
            due.same("purse", x.told(at + 3), 999);
            due.does(x, (char) ('A' + t) + "99", 1);
            due.same("bid", x.told(at + 4), 99);
            x.ride(t, -1, 0);
            due.same("from, not at all", x.told(at), NONE);
        }
    }
}
