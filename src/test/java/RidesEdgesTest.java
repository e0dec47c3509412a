/** The edges that the document names for who holds the silence, and for promises 11 to 18, a sentence each. */
public final class RidesEdgesTest {
    private static final Due due = new Due("RidesEdgesTest");

    public static void main(String[] args) {
        bidAboveNought();
        bidNotAbovePurse();
        bidsMost();
        whoRidesThereThen();
        ofSeveralTheLeast();
        inATunnelNobody();
        paysWhenTheMinutePasses();
        paysTheLastMinute();
        paysHisLast();
        eachCompartmentPays();
        maySpeak();
        fineOrPurse();
        coughsThatCostNothing();
        humsCostNothing();
        bidsThatCanAlwaysBe();
        leastReason();
        lineAtItsEnd();
        firstActThatCanNotBe();
        mostActs();
        judgedAsItGoes();
        doneAndEmpty();
        doneToTheEnd();
        behindOfNothing();
        behindEachPurse();
        behindCountsFromFirstOn();
        holdsAtTheEnd();
        hearsNobodyAndAll();
        hearsNone();
        forecastNow();
        forecastToTheEnd();
        forecastOfTheLongest();
        forecastOfPurses();
        restsToTheEnd();
        talksFromNowOn();
        talksInTunnels();
        due.end();
    }

    private static void bidAboveNought() {
        due.sentence("whose BID is above 0");
        SilenceMinute x = Due.threeRide();
        due.does(x, "A00", 1);
        due.same("a bid of 0", x.holds(0), -6);
        due.does(x, "A01", 1);
        due.same("a bid of 1", x.holds(0), 0);
        due.does(x, "A00", 1);
        due.same("a bid of 0 again", x.holds(0), -6);
        x.purse(0, 0);
        due.same("a bid and a purse of 0", x.holds(0), -6);
    }

    private static void bidNotAbovePurse() {
        due.sentence("and not above their PURSE");
        SilenceMinute x = Due.threeRide();
        due.does(x, "A50", 1);
        due.same("as much as the purse", x.holds(0), 0);
        due.does(x, "A51", 1);
        due.same("one more", x.holds(0), -6);
        due.does(x, "A01", 1);
        x.purse(0, 1);
        due.same("a purse of 1", x.holds(0), 0);
        x.purse(0, 0);
        due.same("a purse of 0", x.holds(0), -6);
        due.does(x, "A99", 1);
        x.purse(0, 99);
        due.same("a bid of 99", x.holds(0), 0);
        x.purse(0, 98);
        due.same("a bid of 99, a purse of 98", x.holds(0), -6);
    }

    private static void bidsMost() {
        due.sentence("held by who bids most");
        SilenceMinute x = Due.allRide(12);
        due.does(x, "A05B06C04", 3);
        due.same("B", x.holds(0), 1);
        due.does(x, "C07", 1);
        due.same("C", x.holds(0), 2);
        x.purse(2, 6);
        due.same("C can not pay, so B", x.holds(0), 1);
        x.purse(1, 5);
        due.same("nor B, so A", x.holds(0), 0);
    }

    private static void whoRidesThereThen() {
        due.sentence("of those who ride there then");
        SilenceMinute x = new SilenceMinute();
        x.ride(4, 1, 1);
        due.does(x, "E05", 1);
        due.same("a minute too early", x.holds(0), -6);
        due.does(x, ".", 1);
        due.same("his minute", x.holds(0), 4);
        x.seat(4, 2);
        due.same("not there any more", x.holds(0), -6);
        due.same("but here", x.holds(2), 4);
        due.same("and not in between", x.holds(1), -6);
        due.does(x, ".", 1);
        due.same("a minute too late", x.holds(2), -6);
    }

    private static void ofSeveralTheLeast() {
        due.sentence("of several by the least; NONE, if there are none");
        SilenceMinute x = Due.allRide(12);
        due.does(x, "A09B09C09D09E09F09", 6);
        for (int t = 0; t < 6; t++) {
            due.same("the least", x.holds(0), t);
            x.ride(t, -1, 0);
        }
        due.same("none", x.holds(0), -6);
    }

    private static void inATunnelNobody() {
        due.sentence("in a TUNNEL by nobody");
        SilenceMinute x = Due.allRide(12);
        x.tunnel(1, true);
        due.does(x, "A05", 1);
        due.same("ahead of it", x.holds(0), 0);
        due.does(x, ".", 1);
        due.same("in it", x.holds(0), -6);
        for (int t = 0; t < 6; t++) {
            due.same("all may speak", x.hears(t), 63 & ~(1 << t));
        }
        due.does(x, "Bc", 1);
        due.does(x, ".", 1);
        due.same("nobody pays in it", x.told(3), 5);
        due.same("behind it", x.holds(0), 0);
    }

    private static void paysWhenTheMinutePasses() {
        due.sentence("pays his BID to the GUARD when the minute passes");
        SilenceMinute x = Due.threeRide();
        due.does(x, "A05", 1);
        due.same("nothing yet", x.told(3), 0);
        due.does(x, "A07.", 2);
        due.same("the last bid alone", x.told(3), 7);
        due.same("his purse", x.told(13), 43);
        due.same("the others'", x.told(33), 50);
        due.does(x, "C09A00C00.", 4);
        due.same("bids that were taken back", x.told(3), 7);
    }

    private static void paysTheLastMinute() {
        due.sentence("when the minute passes: the last of the LINE too");
        SilenceMinute x = Due.allRide(1);
        due.does(x, "F03.", 2);
        due.same("the guard", x.told(3), 3);
        due.same("the minute", x.told(2), 1);
        Due.write(x, ".");
        due.same("no more", x.done(), -5);
        due.same("the guard still", x.told(3), 3);
    }

    private static void paysHisLast() {
        due.sentence("BID not above their PURSE: his last");
        SilenceMinute x = Due.allRide(12);
        x.purse(0, 10);
        due.does(x, "A05B04..", 4);
        due.same("an empty purse", x.told(13), 0);
        due.same("B holds it now", x.holds(0), 1);
        due.same("his bid stays", x.told(14), 5);
        x.purse(0, 14);
        due.does(x, "..", 2);
        due.same("too little is left", x.told(13), 4);
        due.same("B again", x.holds(0), 1);
    }

    private static void eachCompartmentPays() {
        due.sentence("holders pay: one of each COMPARTMENT");
        SilenceMinute x = Due.allRide(12);
        for (int t = 0; t < 6; t++) {
            x.seat(t, t % 3);
        }
        due.does(x, "A01B02C03D04E05F06.", 7);
        due.same("D, E and F", x.told(3), 15);
        int[] purses = {50, 50, 50, 46, 45, 44};
        for (int t = 0; t < 6; t++) {
            due.same("the purse of " + t, x.told(10 * (t + 1) + 3), purses[t]);
        }
    }

    private static void maySpeak() {
        due.sentence("One may speak in a minute, if he rides, and nobody else holds it there");
        SilenceMinute x = Due.threeRide();
        due.judged(x, "AsCs", -6, -6);
        due.judged(x, "A05As", -6, -6);
        due.judged(x, "A05Cs", 1, 2);
        due.judged(x, "A05C06CsAs", 3, 2);
        due.judged(x, "A00Cs", -6, -6);
        due.judged(x, "A51Cs", -6, -6);
        due.judged(x, "Bs", 0, 1);
        due.judged(x, "A05....CsBs.Cs", 8, 2);
        x.seat(2, 1);
        due.judged(x, "A05Cs", -6, -6);
    }

    private static void fined(int fine, int purse, int left) {
        SilenceMinute x = Due.threeRide();
        x.fine(fine);
        x.purse(0, purse);
        due.does(x, "A05Cc", 2);
        due.same("a fine of " + fine + ", a purse of " + purse, x.told(13), left);
        due.same("the guard", x.told(3), purse - left);
        due.same("who coughs pays nothing", x.told(33), 50);
    }

    private static void fineOrPurse() {
        due.sentence("pays the FINE to the GUARD, or his PURSE, if that is less");
        fined(6, 7, 1);
        fined(7, 7, 0);
        fined(8, 7, 0);
        fined(99, 5, 0);
        fined(99, 999, 900);
        fined(1, 5, 4);
        fined(0, 5, 5);
        fined(99, 4, 4);
        SilenceMinute x = Due.threeRide();
        x.purse(0, 7);
        Due.write(x, "A05CcCcCc");
        due.same("he can not bid any more behind the second", x.behind(0), 3);
        due.same("fines", x.behind(8), 4);
    }

    private static void coughsThatCostNothing() {
        due.sentence("who holds the silence there, if it is not he");
        SilenceMinute x = Due.threeRide();
        Due.write(x, "AcCc");
        due.same("nobody holds it", x.behind(8), 0);
        Due.write(x, "A05AcAc");
        due.same("he himself", x.behind(8), 0);
        Due.write(x, "A05....CcBcAc");
        due.same("a tunnel", x.behind(8), 0);
        Due.write(x, "A05.....Cc");
        due.same("behind the tunnel", x.behind(8), 2);
        x.seat(2, 2);
        Due.write(x, "A05Cc");
        due.same("not there", x.behind(8), 0);
    }

    private static void humsCostNothing() {
        due.sentence("h (he hums)");
        SilenceMinute x = Due.threeRide();
        due.does(x, "A05ChAh", 3);
        due.same("the guard", x.told(3), 0);
        due.same("sights", x.told(5), 0);
    }

    private static void bidsThatCanAlwaysBe() {
        due.sentence("An ACT can not be: 1 he does not ride now (c, s, h), so a bid can");
        SilenceMinute x = new SilenceMinute();
        due.judged(x, "A99F01", -6, -6);
        due.judged(x, "............A05", -6, -6);
        due.judged(x, "Ac", 0, 1);
        due.judged(x, "As", 0, 1);
        due.judged(x, "Ah", 0, 1);
    }

    private static void leastReason() {
        due.sentence("for the least of these reasons");
        SilenceMinute x = Due.threeRide();
        due.judged(x, "A05Bs", 1, 1);
        due.judged(x, "A05..Bs", 3, 2);
        due.judged(x, "............Cs", 12, 1);
        due.judged(x, "............Cc", 12, 1);
        due.judged(x, "............Ch", 12, 1);
    }

    private static void lineAtItsEnd() {
        due.sentence("3 the LINE is at its end (., minute LONG)");
        SilenceMinute x = Due.threeRide();
        due.judged(x, "............", -6, -6);
        due.judged(x, ".............", 12, 3);
        due.does(x, "...........", 11);
        due.judged(x, ".", -6, -6);
        due.judged(x, "..", 1, 3);
        due.does(x, ".", 1);
        due.judged(x, ".", 0, 3);
    }

    private static void firstActThatCanNotBe() {
        due.sentence("11 the first ACT (from 0 on) that can not be, and why");
        SilenceMinute x = Due.threeRide();
        due.judged(x, "", -6, -6);
        due.judged(x, "Fc", 0, 1);
        due.judged(x, "A05CsFc", 1, 2);
        due.judged(x, "A05FcCs", 1, 1);
        due.judged(x, "A05C04Fh", 2, 1);
        due.judged(x, "............Fc.", 12, 1);
        due.judged(x, ".............Fc", 12, 3);
    }

    private static void mostActs() {
        due.sentence("11 of 60 SIGNS");
        SilenceMinute x = Due.allRide(30);
        due.judged(x, "A01".repeat(20), -6, -6);
        due.judged(x, "Ac".repeat(30), -6, -6);
        x.ride(5, -1, 0);
        due.judged(x, "Ac".repeat(29) + "Fc", 29, 1);
        due.judged(x, ".".repeat(30) + "A01".repeat(9) + "...", 39, 3);
        due.judged(x, ".".repeat(60), 30, 3);
    }

    private static void judgedAsItGoes() {
        due.sentence("11 JUDGED by what the acts ahead of it do, and nothing is DONE");
        SilenceMinute x = Due.threeRide();
        x.fine(46);
        due.judged(x, "A05CcCs", -6, -6);
        x.fine(45);
        due.judged(x, "A05CcCs", 2, 2);
        due.same("signs", x.told(0), 7);
        due.same("the bid", x.told(14), 0);
        due.same("the purse", x.told(13), 50);
        due.same("the guard", x.told(3), 0);
        due.same("the minute", x.told(2), 0);
    }

    private static void doneAndEmpty() {
        due.sentence("12 RIDES on the PAD are DONE (it is empty then): ACTS");
        SilenceMinute x = Due.threeRide();
        due.same("an empty pad", x.done(), 0);
        due.does(x, "A05C04.CcChAs", 6);
        due.same("no sign is left", x.told(0), 0);
        due.same("an empty pad again", x.done(), 0);
        due.same("done once", x.told(3), 7);
        due.does(x, "Ac".repeat(30), 30);
        due.does(x, "A01".repeat(20), 20);
        due.same("no sign is left of sixty", x.wipe(), 0);
    }

    private static void doneToTheEnd() {
        due.sentence("12 NO: an ACT that can not be: none of them is done");
        SilenceMinute x = Due.threeRide();
        Due.write(x, "A05............." );
        due.same("one minute too many", x.done(), -5);
        due.same("the bid", x.told(14), 0);
        due.same("the minute", x.told(2), 0);
        due.same("signs stay", x.told(0), 16);
        due.does(x, "A05............", 13);
        due.same("the end", x.told(2), 12);
        due.same("the guard", x.told(3), 25);
    }

    private static void behindOfNothing() {
        due.sentence("13 BEHIND of an empty PAD");
        SilenceMinute x = Due.threeRide();
        due.does(x, "A05Cc.", 3);
        int[] want = {43, 50, 50, 50, 50, 50, 7, 1, 0};
        for (int what = 0; what < want.length; what++) {
            due.same("behind(" + what + ")", x.behind(what), want[what]);
        }
    }

    private static void behindEachPurse() {
        due.sentence("13 PURSES of TRAVELLERS 0 to 5");
        SilenceMinute x = Due.allRide(12);
        for (int t = 0; t < 6; t++) {
            x.purse(t, 100 * t + 50);
        }
        Due.write(x, "A06.A00B05.B00C04.C00D03.D00E02.E00F01.");
        int[] want = {44, 145, 246, 347, 448, 549, 21, 6, 0};
        for (int what = 0; what < want.length; what++) {
            due.same("behind(" + what + ")", x.behind(what), want[what]);
        }
        due.same("not being DONE", x.told(13), 50);
        due.same("the minute", x.told(2), 0);
        due.same("signs stay", x.told(0), 39);
    }

    private static void behindCountsFromFirstOn() {
        due.sentence("13 6 what the GUARD has had in all, from first on; 8 FINES that are paid in it, together");
        SilenceMinute x = Due.threeRide();
        due.does(x, "A05Cc.", 3);
        Due.write(x, "CcCc");
        due.same("the guard, from first on", x.behind(6), 11);
        due.same("fines, in it alone", x.behind(8), 4);
        x.line(12);
        due.same("the guard keeps it, whatever line", x.behind(6), 11);
        due.same("asked again", x.behind(8), 4);
    }

    private static void holdsAtTheEnd() {
        due.sentence("14 HOLDS; NONE");
        SilenceMinute x = Due.allRide(2);
        x.seat(5, 2);
        due.does(x, "A05F03", 2);
        due.same("holds(0)", x.holds(0), 0);
        due.same("holds(1)", x.holds(1), -6);
        due.same("holds(2)", x.holds(2), 5);
        due.does(x, ".", 1);
        due.same("the last minute", x.holds(2), 5);
        due.does(x, ".", 1);
        for (int c = 0; c < 3; c++) {
            due.same("the end", x.holds(c), -6);
        }
    }

    private static void hearsNobodyAndAll() {
        due.sentence("15 who rides with a TRAVELLER who may speak now, as bits");
        SilenceMinute x = Due.allRide(12);
        for (int t = 0; t < 6; t++) {
            due.same("all the others", x.hears(t), 63 & ~(1 << t));
        }
        x.seat(3, 1);
        due.same("alone", x.hears(3), 0);
        due.same("the others", x.hears(5), 1 | 2 | 4 | 16);
        x.seat(5, 1);
        due.same("two", x.hears(3), 32);
        due.does(x, "D01", 1);
        due.same("who holds it", x.hears(3), 32);
    }

    private static void hearsNone() {
        due.sentence("15 NONE: he may not");
        SilenceMinute x = Due.threeRide();
        due.same("he does not ride yet", x.hears(1), -6);
        due.same("he does not ride at all", x.hears(5), -6);
        due.does(x, "A01", 1);
        due.same("another one holds it", x.hears(2), -6);
        due.does(x, ".....", 5);
        due.same("his last minute", x.hears(0), 6);
        due.does(x, ".", 1);
        due.same("he has got out", x.hears(0), -6);
        due.same("those who are left may", x.hears(1), 4);
        due.does(x, "......", 6);
        due.same("the end", x.hears(2), -6);
    }

    private static void forecastNow() {
        due.sentence("16 d minutes from now (0 to 30)");
        SilenceMinute x = Due.threeRide();
        due.does(x, "A05", 1);
        for (int c = 0; c < 3; c++) {
            due.same("forecast(" + c + ", 0) is holds", x.forecast(c, 0), x.holds(c));
        }
        int[] want = {0, 0, 0, 0, -6, 0, -6};
        for (int d = 0; d < want.length; d++) {
            due.same("forecast(0, " + d + ")", x.forecast(0, d), want[d]);
        }
        due.does(x, "...", 3);
        due.same("from now on: the tunnel", x.forecast(0, 1), -6);
        due.same("from now on: his last minute", x.forecast(0, 2), 0);
        due.same("from now on: he has got out", x.forecast(0, 3), -6);
    }

    private static void forecastToTheEnd() {
        due.sentence("16 NONE, too, at the end");
        SilenceMinute x = Due.allRide(12);
        due.does(x, "F01", 1);
        due.same("the last minute", x.forecast(0, 11), 5);
        due.same("the end", x.forecast(0, 12), -6);
        due.same("behind it", x.forecast(0, 13), -6);
        due.same("as far as one may ask", x.forecast(0, 30), -6);
        due.does(x, "...........", 11);
        due.same("now, in the last minute", x.forecast(0, 0), 5);
        due.same("the end is next", x.forecast(0, 1), -6);
        due.does(x, ".", 1);
        due.same("at the end", x.forecast(0, 0), -6);
        due.same("at the end, later", x.forecast(0, 30), -6);
        due.same("the minute stays", x.told(2), 12);
    }

    private static void forecastOfTheLongest() {
        due.sentence("16 0 to 30, of a LINE of 30 minutes");
        SilenceMinute x = Due.allRide(30);
        x.ride(3, 29, 29);
        x.seat(3, 2);
        due.does(x, "D01", 1);
        due.same("forecast(2, 28)", x.forecast(2, 28), -6);
        due.same("forecast(2, 29)", x.forecast(2, 29), 3);
        due.same("forecast(2, 30)", x.forecast(2, 30), -6);
    }

    private static void forecastOfPurses() {
        due.sentence("nothing more being done but that minutes pass");
        SilenceMinute x = Due.allRide(12);
        x.purse(0, 10);
        x.purse(1, 3);
        due.does(x, "A05B03C01", 3);
        int[] want = {0, 0, 1, 2, 2};
        for (int d = 0; d < want.length; d++) {
            due.same("forecast(0, " + d + ")", x.forecast(0, d), want[d]);
        }
        due.same("nothing is done", x.told(13), 10);
    }

    private static void restsToTheEnd() {
        due.sentence("17 a TRAVELLER's PURSE at the end");
        SilenceMinute x = Due.threeRide();
        due.does(x, "A05", 1);
        due.same("all his minutes but the tunnel", x.rests(0), 25);
        due.same("one who does not pay", x.rests(2), 50);
        due.same("one who does not ride", x.rests(5), 50);
        x.purse(0, 25);
        due.same("it is just enough", x.rests(0), 0);
        x.purse(0, 24);
        due.same("it is too little for the last", x.rests(0), 4);
        x.purse(5, 999);
        due.same("a full purse", x.rests(5), 999);
        x.line(1);
        due.same("one minute", x.rests(0), 19);
        due.does(x, ".", 1);
        due.same("at the end", x.rests(0), 19);
    }

    private static void talksFromNowOn() {
        due.sentence("18 in how many of the minutes from now on");
        SilenceMinute x = Due.allRide(30);
        due.same("all", x.talks(0, 5), 30);
        due.does(x, ".", 1);
        due.same("all but one", x.talks(5, 0), 29);
        due.does(x, ".".repeat(28), 28);
        due.same("the last", x.talks(0, 5), 1);
        due.does(x, ".", 1);
        due.same("the end", x.talks(0, 5), 0);
        x.line(1);
        due.same("the shortest line", x.talks(0, 5), 1);
        x.ride(5, 1, 1);
        due.same("the other one rides behind the end", x.talks(0, 5), 0);
        x.line(2);
        due.same("they meet in one minute", x.talks(0, 5), 1);
        x.seat(5, 1);
        due.same("they sit apart", x.talks(0, 5), 0);
    }

    private static void talksInTunnels() {
        due.sentence("18 one may speak, while another one rides in his COMPARTMENT");
        SilenceMinute x = Due.allRide(12);
        x.purse(0, 60);
        due.does(x, "A05", 1);
        due.same("another one holds it", x.talks(1, 2), 0);
        due.same("to the holder", x.talks(1, 0), 0);
        due.same("the holder", x.talks(0, 1), 12);
        x.tunnel(0, true);
        x.tunnel(11, true);
        due.same("tunnels", x.talks(1, 2), 2);
        x.purse(0, 45);
        due.same("and the minute that he can not pay", x.talks(1, 2), 3);
    }
}
