/** The edges that the document names for promises 1 to 10, a sentence each. */
public final class LineEdgesTest {
    private static final int MIN = Integer.MIN_VALUE;
    private static final int MAX = Integer.MAX_VALUE;
    private static final Due due = new Due("LineEdgesTest");

    public static void main(String[] args) {
        lastCall();
        atFirst();
        shortestAndLongestLine();
        minutesOfTheLine();
        lineBringsMinuteNought();
        lineLeavesTheRest();
        noTunnelAndAllTunnels();
        tunnelsBehindTheLine();
        tunnelTwice();
        compartments();
        travellersByLetters();
        bothMinutesCounted();
        asFarAsTheLineGoes();
        ridesBehindAShorterLine();
        notAtAll();
        firstAndLastRide();
        purses();
        bids();
        fines();
        signs();
        sixtySigns();
        roomAgain();
        wipes();
        signsBetweenActs();
        signsBehindALetter();
        signsBehindADigit();
        moreMustCome();
        firstFault();
        faultOfAFullPad();
        due.end();
    }

    private static void lastCall() {
        due.sentence("at most 512 calls after it has been made");
        SilenceMinute x = new SilenceMinute();
        x.purse(0, 0);
        for (int call = 2; call <= 511; call++) {
            due.same("call " + call, x.purse(0, call), call == 2 ? 0 : call - 1);
        }
        due.same("call 512", x.told(13), 511);
    }

    private static void atFirst() {
        SilenceMinute x = new SilenceMinute();
        due.sentence("LONG .. 12 at first");
        due.same("told(1)", x.told(1), 12);
        due.sentence("some are TUNNELS (none at first)");
        due.same("told(6)", x.told(6), 0);
        due.sentence("The FINE is 2 at first");
        due.same("told(4)", x.told(4), 2);
        due.sentence("It is minute 0 at first");
        due.same("told(2)", x.told(2), 0);
        due.sentence("A new object");
        due.same("the guard", x.told(3), 0);
        due.same("signs", x.told(0), 0);
        due.same("sights", x.told(5), 0);
        due.sentence("not at all (at first), COMPARTMENT (0 at first), PURSE (50 at first), BID (0 at first)");
        int[] first = {-6, -6, 0, 50, 0};
        for (int t = 0; t < 6; t++) {
            for (int what = 0; what < first.length; what++) {
                due.same("told of " + t + ", " + what, x.told(10 * (t + 1) + what), first[what]);
            }
        }
    }

    private static void shortestAndLongestLine() {
        due.sentence("LONG 1 to 30");
        SilenceMinute x = new SilenceMinute();
        due.same("line(1)", x.line(1), 12);
        due.same("told(1)", x.told(1), 1);
        due.same("line(30)", x.line(30), 1);
        due.same("told(1)", x.told(1), 30);
        due.same("line(30) again", x.line(30), 30);
        due.same("line(2)", x.line(2), 30);
        due.same("line(29)", x.line(29), 2);
    }

    private static void minutesOfTheLine() {
        due.sentence("a LINE of minutes 0 to LONG less 1");
        SilenceMinute x = new SilenceMinute();
        x.line(1);
        due.same("ride(0, 0, 0)", x.ride(0, 0, 0), 1);
        due.same("ride(1, 1, 1)", x.ride(1, 1, 1), 0);
        due.judged(x, ".", -6, -6);
        due.judged(x, "..", 1, 3);
        x.line(30);
        due.same("ride(0, 29, 29)", x.ride(0, 29, 29), 1);
        due.judged(x, ".".repeat(29) + "As.", -6, -6);
        due.judged(x, ".".repeat(31), 30, 3);
        due.judged(x, ".".repeat(30) + "As", 30, 1);
    }

    private static void lineBringsMinuteNought() {
        due.sentence("2 It is minute 0");
        SilenceMinute x = new SilenceMinute();
        due.does(x, "............", 12);
        due.same("the end", x.told(2), 12);
        due.same("line(12)", x.line(12), 12);
        due.same("minute", x.told(2), 0);
        due.does(x, ".....", 5);
        x.line(5);
        due.same("a line that is over by then", x.told(2), 0);
        due.does(x, ".", 1);
        due.same("a refused line", x.line(31), -2);
        due.same("minute stays", x.told(2), 1);
    }

    private static void lineLeavesTheRest() {
        due.sentence("2 LONG alone is told, and the minute");
        SilenceMinute x = Due.threeRide();
        x.fine(9);
        x.seen(1, 0);
        due.does(x, "A05.", 2);
        Due.write(x, "A1");
        x.line(3);
        int[] want = {2, 3, 0, 5, 9, 1, 16};
        for (int what = 0; what < want.length; what++) {
            due.same("told(" + what + ")", x.told(what), want[what]);
        }
        int[] of = {0, 5, 0, 45, 5};
        for (int what = 0; what < of.length; what++) {
            due.same("told(" + (10 + what) + ")", x.told(10 + what), of[what]);
        }
    }

    private static void noTunnelAndAllTunnels() {
        due.sentence("3 a minute (0 to 29) is a TUNNEL, or not: how many of the LINE are");
        SilenceMinute x = new SilenceMinute();
        x.line(30);
        for (int m = 0; m < 30; m++) {
            due.same("tunnel(" + m + ", true)", x.tunnel(m, true), m + 1);
        }
        due.same("all", x.told(6), (1 << 30) - 1);
        for (int m = 0; m < 30; m++) {
            due.same("tunnel(" + m + ", false)", x.tunnel(m, false), 29 - m);
        }
        due.same("none", x.told(6), 0);
    }

    private static void tunnelsBehindTheLine() {
        due.sentence("3 how many of the LINE are");
        SilenceMinute x = new SilenceMinute();
        due.same("tunnel(11, true)", x.tunnel(11, true), 1);
        due.same("tunnel(12, true)", x.tunnel(12, true), 1);
        due.same("tunnel(29, true)", x.tunnel(29, true), 1);
        due.same("bits by minutes", x.told(6), 1 << 11 | 1 << 12 | 1 << 29);
        x.line(13);
        due.same("the line reaches 12", x.tunnel(29, true), 2);
        x.line(11);
        due.same("the line ends ahead of 11", x.tunnel(29, true), 0);
        x.line(30);
        due.same("the line reaches 29", x.tunnel(29, true), 3);
        due.same("tunnel(29, false)", x.tunnel(29, false), 2);
    }

    private static void tunnelTwice() {
        due.sentence("3 a minute is a TUNNEL, or not");
        SilenceMinute x = new SilenceMinute();
        due.same("no tunnel yet", x.tunnel(0, false), 0);
        due.same("tunnel(0, true)", x.tunnel(0, true), 1);
        due.same("tunnel(0, true) again", x.tunnel(0, true), 1);
        due.same("tunnel(0, false)", x.tunnel(0, false), 0);
        due.same("tunnel(0, false) again", x.tunnel(0, false), 0);
    }

    private static void compartments() {
        due.sentence("5 COMPARTMENTS 0 to 2: which it was");
        SilenceMinute x = new SilenceMinute();
        for (int t = 0; t < 6; t++) {
            due.same("seat(" + t + ", 2)", x.seat(t, 2), 0);
            due.same("seat(" + t + ", 1)", x.seat(t, 1), 2);
            due.same("seat(" + t + ", 1) again", x.seat(t, 1), 1);
            due.same("seat(" + t + ", 0)", x.seat(t, 0), 1);
            due.same("told", x.told(10 * (t + 1) + 2), 0);
        }
    }

    private static void travellersByLetters() {
        due.sentence("TRAVELLERS 0 to 5 (A to F)");
        SilenceMinute x = new SilenceMinute();
        due.does(x, "A01B02C03D04E05F06", 6);
        for (int t = 0; t < 6; t++) {
            due.same("the bid of " + t, x.told(10 * (t + 1) + 4), t + 1);
        }
        due.faulty("@01", 0);
        due.faulty("G01", 0);
        due.faulty("a01", 0);
        due.faulty("f01", 0);
    }

    private static void bothMinutesCounted() {
        due.sentence("from one minute through another one (both counted)");
        SilenceMinute x = new SilenceMinute();
        due.same("ride(3, 2, 4)", x.ride(3, 2, 4), 3);
        due.judged(x, ".Dh", 1, 1);
        due.judged(x, "..Dh.Dh.Dh", -6, -6);
        due.judged(x, ".....Dh", 5, 1);
        due.same("one minute", x.ride(3, 4, 4), 1);
        due.judged(x, "...Dh", 3, 1);
        due.judged(x, "....Dh", -6, -6);
        due.judged(x, ".....Dh", 5, 1);
    }

    private static void asFarAsTheLineGoes() {
        due.sentence("as far as the LINE goes; 4 in how many minutes of the LINE");
        SilenceMinute x = new SilenceMinute();
        due.same("ride(0, 0, 29)", x.ride(0, 0, 29), 12);
        due.same("ride(0, 0, 11)", x.ride(0, 0, 11), 12);
        due.same("ride(0, 0, 10)", x.ride(0, 0, 10), 11);
        due.same("ride(0, 11, 12)", x.ride(0, 11, 12), 1);
        due.same("ride(0, 12, 12)", x.ride(0, 12, 12), 0);
        due.same("ride(0, 29, 29)", x.ride(0, 29, 29), 0);
        due.same("he is told to ride from 29", x.told(10), 29);
        x.ride(0, 0, 29);
        due.judged(x, "...........Ah", -6, -6);
        due.judged(x, "............Ah", 12, 1);
        due.same("to stays as told", x.told(11), 29);
    }

    private static void ridesBehindAShorterLine() {
        due.sentence("as far as the LINE goes, which may change");
        SilenceMinute x = new SilenceMinute();
        x.ride(0, 5, 9);
        x.line(5);
        due.same("he rides in no minute", x.hum(), 0);
        x.line(6);
        due.same("he rides in one", x.hum(), 1);
        due.same("from stays", x.told(10), 5);
        due.same("to stays", x.told(11), 9);
        due.judged(x, ".....Ah", -6, -6);
        due.judged(x, "......Ah", 6, 1);
    }

    private static void notAtAll() {
        due.sentence("4 from -1: not at all");
        int[] any = {-1, 0, 29, 30, 99, MIN, MAX};
        for (int to : any) {
            SilenceMinute x = new SilenceMinute();
            x.ride(5, 0, 11);
            due.same("ride(5, -1, " + to + ")", x.ride(5, -1, to), 0);
            due.same("from", x.told(60), -6);
            due.judged(x, "Fh", 0, 1);
            due.same("he rides again", x.ride(5, 11, 11), 1);
            due.same("from again", x.told(60), 11);
        }
    }

    private static void firstAndLastRide() {
        due.sentence("4 0 to 29; from above to");
        SilenceMinute x = new SilenceMinute();
        x.line(30);
        for (int t = 0; t < 6; t++) {
            due.same("ride(" + t + ", 0, 0)", x.ride(t, 0, 0), 1);
            due.same("ride(" + t + ", 29, 29)", x.ride(t, 29, 29), 1);
            due.same("ride(" + t + ", 28, 29)", x.ride(t, 28, 29), 2);
            due.same("ride(" + t + ", 0, 29)", x.ride(t, 0, 29), 30);
        }
    }

    private static void purses() {
        due.sentence("6 PURSE (0 to 999): which it was");
        SilenceMinute x = new SilenceMinute();
        for (int t = 0; t < 6; t++) {
            due.same("purse(" + t + ", 0)", x.purse(t, 0), 50);
            due.same("purse(" + t + ", 999)", x.purse(t, 999), 0);
            due.same("purse(" + t + ", 1)", x.purse(t, 1), 999);
            due.same("purse(" + t + ", 998)", x.purse(t, 998), 1);
            due.same("told", x.told(10 * (t + 1) + 3), 998);
        }
    }

    private static void bids() {
        due.sentence("a BID (0 to 99)");
        SilenceMinute x = new SilenceMinute();
        for (int bid : new int[] {99, 0, 90, 9, 10, 1}) {
            due.does(x, "C" + bid / 10 + bid % 10, 1);
            due.same("bid", x.told(34), bid);
        }
        due.same("the others' stay", x.told(24), 0);
    }

    private static void fines() {
        due.sentence("7 the FINE (0 to 99): which it was");
        SilenceMinute x = Due.threeRide();
        x.purse(0, 200);
        due.same("fine(0)", x.fine(0), 2);
        due.does(x, "A05Cc", 2);
        due.same("a fine of 0", x.told(13), 200);
        due.same("fine(99)", x.fine(99), 0);
        due.does(x, "Cc", 1);
        due.same("a fine of 99", x.told(13), 101);
        due.same("fine(98)", x.fine(98), 99);
        due.same("fine(1)", x.fine(1), 98);
        due.same("told", x.told(4), 1);
    }

    private static void signs() {
        due.sentence("8 codes 33 to 126");
        SilenceMinute x = new SilenceMinute();
        for (int sign = 33; sign <= 126; sign++) {
            due.same("say(" + sign + ")", x.say(sign), 1);
            due.same("wipe()", x.wipe(), 1);
        }
    }

    private static void sixtySigns() {
        due.sentence("8 60 SIGNS at most");
        SilenceMinute x = new SilenceMinute();
        for (int n = 1; n <= 60; n++) {
            due.same("say, " + n, x.say('.'), n);
        }
        due.same("signs", x.told(0), 60);
        due.same("one more", x.say('.'), -4);
        due.same("signs still", x.told(0), 60);
    }

    private static void roomAgain() {
        due.sentence("8 FULL: and no more so, when signs go");
        SilenceMinute x = Due.threeRide();
        Due.write(x, "A05".repeat(20));
        due.same("full", x.say('.'), -4);
        due.same("done()", x.done(), 20);
        due.same("behind done()", x.say('.'), 1);
        Due.write(x, "A06".repeat(20));
        due.same("full again", x.say('.'), -4);
        due.same("wipe()", x.wipe(), 60);
        due.same("behind wipe()", x.say('.'), 1);
        due.same("what went is not done", x.told(14), 5);
    }

    private static void wipes() {
        due.sentence("9 signs go: how many there were");
        SilenceMinute x = new SilenceMinute();
        due.same("none", x.wipe(), 0);
        x.say('!');
        due.same("one", x.wipe(), 1);
        Due.write(x, "!".repeat(60));
        due.same("sixty", x.wipe(), 60);
        due.same("none again", x.wipe(), 0);
        due.same("signs", x.told(0), 0);
        due.same("no fault of those that went", x.fault(), -6);
    }

    /** Each sign behind some others: it ends an act there, or more must come, or it can not stand there. */
    private static void eachSign(String ahead, String ends, String goesOn) {
        int place = ahead.length();
        for (int sign = 33; sign <= 126; sign++) {
            int unended = goesOn.indexOf(sign) >= 0 ? place + 1 : place;
            due.faulty(ahead + (char) sign, ends.indexOf(sign) >= 0 ? -6 : unended);
        }
    }

    private static void signsBetweenActs() {
        due.sentence("of ACTS: a TRAVELLER's letter and .. ; .");
        for (String ahead : new String[] {"", ".", "A05", "Bc", "Cs", "Dh"}) {
            eachSign(ahead, ".", "ABCDEF");
        }
    }

    private static void signsBehindALetter() {
        due.sentence("a letter and: two digits 0 to 9, c, s, h");
        for (String ahead : new String[] {"A", "F", ".B"}) {
            eachSign(ahead, "csh", "0123456789");
        }
    }

    private static void signsBehindADigit() {
        due.sentence("two digits 0 to 9");
        for (String ahead : new String[] {"A0", "A9", "F5", ".B3"}) {
            eachSign(ahead, "0123456789", "");
        }
    }

    private static void moreMustCome() {
        due.sentence("10 the number of signs, if more must come");
        due.faulty("A", 1);
        due.faulty("A0", 2);
        due.faulty(".F", 2);
        due.faulty("A05F9", 5);
        due.sentence("10 NONE");
        due.faulty("", -6);
        due.faulty(".", -6);
        due.faulty("A05", -6);
    }

    private static void firstFault() {
        due.sentence("10 the place (from 0 on) of the first sign that can not stand there");
        due.faulty("!", 0);
        due.faulty("!!", 0);
        due.faulty("!A05", 0);
        due.faulty(".!A", 1);
        due.faulty("A!!", 1);
        due.faulty("A0!!", 2);
        due.faulty("A05!A", 3);
        due.faulty("A055", 3);
        due.faulty("Acc", 2);
        due.faulty("AA05", 1);
    }

    private static void faultOfAFullPad() {
        due.sentence("10 of 60 SIGNS");
        due.faulty(".".repeat(60), -6);
        due.faulty("A05".repeat(20), -6);
        due.faulty("Ac".repeat(30), -6);
        due.faulty(".".repeat(59) + "!", 59);
        due.faulty(".".repeat(59) + "A", 60);
        due.faulty(".".repeat(58) + "A5", 60);
        due.faulty("!" + ".".repeat(59), 0);
    }
}
