import java.util.ArrayList;
import java.util.List;
import java.util.Map;
import java.util.TreeMap;
import java.util.function.Supplier;
import java.util.function.ToLongFunction;

/** What each call changes: that which the document tells, and nothing else; a question changes nothing. */
public final class ChangesTest {
    // Asked twice, so that two times this, the state's own calls and all that is told stay under 512.
    private static final int QUESTIONS = 50;
    private static final Due due = new Due("ChangesTest");

    public static void main(String[] args) {
        lineAndTunnel();
        travellers();
        padAndSights();
        actsThatChangeNothing();
        actsThatChange();
        images();
        questionsOfRides();
        questionsOfBids();
        questionsOfHums();
        due.end();
    }

    private static Map<Integer, Integer> told(SilenceMinute x) {
        Map<Integer, Integer> all = new TreeMap<>();
        for (int what = 0; what <= 6; what++) {
            all.put(what, x.told(what));
        }
        for (int t = 1; t <= 6; t++) {
            for (int what = 0; what <= 4; what++) {
                all.put(10 * t + what, x.told(10 * t + what));
            }
        }
        return all;
    }

    /** Behind the call told() answers as before, but for these: a number of told() and its answer, by turns. */
    private static void changes(String call, ToLongFunction<SilenceMinute> ask, int... numbersAndAnswers) {
        SilenceMinute x = States.busy();
        Map<Integer, Integer> want = told(x);
        due.truth(call + " is taken", ask.applyAsLong(x) >= 0);
        for (int i = 0; i < numbersAndAnswers.length; i += 2) {
            due.truth(call + " changes told(" + numbersAndAnswers[i] + ")",
                want.put(numbersAndAnswers[i], numbersAndAnswers[i + 1]) != numbersAndAnswers[i + 1]);
        }
        Map<Integer, Integer> got = told(x);
        for (int what : want.keySet()) {
            due.same("told(" + what + ") behind " + call, got.get(what), want.get(what));
        }
    }

    private static void lineAndTunnel() {
        due.sentence("2 LONG: which it was. It is minute 0");
        changes("line(9)", x -> x.line(9), 1, 9, 2, 0);
        changes("line(14)", x -> x.line(14), 2, 0);
        due.sentence("3 a minute is a TUNNEL, or not");
        int tunnels = 1 << 4 | 1 << 8 | 1 << 29;
        changes("tunnel(0, true)", x -> x.tunnel(0, true), 6, tunnels | 1);
        changes("tunnel(8, false)", x -> x.tunnel(8, false), 6, tunnels & ~(1 << 8));
        changes("tunnel(8, true)", x -> x.tunnel(8, true));
        due.sentence("7 the FINE");
        changes("fine(50)", x -> x.fine(50), 4, 50);
    }

    private static void travellers() {
        for (int t = 0; t < 6; t++) {
            int one = t;
            int at = 10 * (t + 1);
            due.sentence("4 from when to when a TRAVELLER rides");
            changes("ride(" + t + ", 27, 28)", x -> x.ride(one, 27, 28), at, 27, at + 1, 28);
            due.sentence("5 a TRAVELLER's COMPARTMENT");
            int elsewhere = t == 4 ? 0 : 1;
            changes("seat(" + t + ", " + elsewhere + ")", x -> x.seat(one, elsewhere), at + 2, elsewhere);
            due.sentence("6 PURSE of a TRAVELLER");
            changes("purse(" + t + ", 777)", x -> x.purse(one, 777), at + 3, 777);
        }
    }

    private static void padAndSights() {
        due.sentence("8 a sign more");
        changes("say('A')", x -> x.say('A'), 0, 11);
        due.sentence("9 signs go");
        changes("wipe()", SilenceMinute::wipe, 0, 0);
        due.sentence("24 a SIGHT more");
        changes("seen(9, 4)", x -> x.seen(9, 4), 5, 3);
        due.sentence("25 SIGHTS go");
        changes("forget()", SilenceMinute::forget, 5, 0);
    }

    private static long does(SilenceMinute x, String text) {
        Due.write(x, text);
        return x.done();
    }

    private static void actsThatChangeNothing() {
        due.sentence("s (he speaks), h (he hums): nobody pays for it; c of who holds the silence");
        changes("done() of As", x -> does(x, "As"), 0, 0);
        changes("done() of AhBhChDh", x -> does(x, "AhBhChDh"), 0, 0);
        changes("done() of AcDc", x -> does(x, "AcDc"), 0, 0);
        changes("done() of A05", x -> does(x, "A05"), 0, 0);
    }

    private static void actsThatChange() {
        // A bids 5, B 4, D 2, all in 0 but D in 2; it is minute 2, and the guard has 5 and 5 and 3 and 2.
        due.sentence("two digits (his BID from now on)");
        changes("done() of F31", x -> does(x, "F31"), 0, 0, 64, 31);
        due.sentence("c (he coughs: who holds the silence there pays the FINE to the GUARD)");
        changes("done() of Cc", x -> does(x, "Cc"), 0, 0, 3, 18, 13, 44);
        due.sentence(". (the minute passes: holders pay, it is the next one)");
        changes("done() of .", x -> does(x, "."), 0, 0, 2, 3, 3, 22, 13, 42, 43, 77);
    }

    private static void images() {
        due.sentence("31 all but the PAD is kept");
        changes("image(0)", x -> x.image(0));
        due.sentence("32 it is as it was when it was kept");
        changes("restore(1)", x -> x.restore(1));
        changes("restore(1) behind fine(80)", x -> x.fine(80) < 0 ? -1 : x.restore(1));
    }

    /** Two objects made alike: one is asked all of these twice, and then both tell the same. */
    private static void unchanged(String calls, List<ToLongFunction<SilenceMinute>> questions) {
        due.truth(calls + ": no more than an object may be asked", questions.size() <= QUESTIONS);
        for (Map.Entry<String, Supplier<SilenceMinute>> state : States.all().entrySet()) {
            SilenceMinute x = state.getValue().get();
            List<Long> first = new ArrayList<>();
            for (ToLongFunction<SilenceMinute> question : questions) {
                first.add(question.applyAsLong(x));
            }
            for (int i = 0; i < questions.size(); i++) {
                due.same(calls + ", " + i + " again, " + state.getKey(), questions.get(i).applyAsLong(x), first.get(i));
            }
            SilenceMinute unasked = state.getValue().get();
            due.truth(calls + " changes nothing, " + state.getKey(), AllTold.of(x).equals(AllTold.of(unasked)));
        }
    }

    private static void questionsOfRides() {
        List<ToLongFunction<SilenceMinute>> asks = new ArrayList<>();
        asks.add(SilenceMinute::fault);
        for (int what = 0; what <= 8; what++) {
            int w = what;
            asks.add(x -> x.judge(w));
            asks.add(x -> x.behind(w));
        }
        due.sentence("11 JUDGED; 13 BEHIND, not being DONE");
        unchanged("fault, judge, behind", asks);
        asks.clear();
        for (int t = 0; t < 6; t++) {
            int one = t;
            asks.add(x -> x.holds(one));
            asks.add(x -> x.hears(one));
            asks.add(x -> x.rests(one));
            asks.add(x -> x.talks(one, 2));
            asks.add(x -> x.forecast(0, 6 * one));
            asks.add(x -> x.forecast(2, one));
        }
        due.sentence("14 to 18 (nothing more being done)");
        unchanged("holds, hears, rests, talks, forecast", asks);
    }

    private static void questionsOfBids() {
        List<ToLongFunction<SilenceMinute>> asks = new ArrayList<>();
        for (int t = 0; t < 6; t++) {
            int one = t;
            asks.add(x -> x.buy(one, 0));
            asks.add(x -> x.buy(one, 1));
            asks.add(x -> x.word(one, one));
            asks.add(x -> x.heard(one, 0, 2));
            asks.add(x -> x.seats(1 << one, 1 << (14 - one), 0));
            asks.add(x -> x.seats(0, 1 << one, 1));
            asks.add(x -> x.richest(one));
        }
        due.sentence("19 to 23 (as FORECAST)");
        unchanged("buy, word, heard, seats, richest", asks);
    }

    private static void questionsOfHums() {
        List<ToLongFunction<SilenceMinute>> asks = new ArrayList<>();
        asks.add(SilenceMinute::hum);
        for (int n = 0; n < 6; n++) {
            int k = n;
            asks.add(x -> x.watch(k));
            asks.add(x -> x.auction(2 + k, k, 0));
            asks.add(x -> x.auction(20, k, 1));
            asks.add(x -> x.coughs(k % 3, 2 * k, 0));
            asks.add(x -> x.coughs(k % 3, k, 1));
            asks.add(x -> x.year(77 * k, 99 - k, 0));
            asks.add(x -> x.year(1000 * k, 40, 1));
            asks.add(x -> x.year(k, 1 + k, 2));
        }
        due.sentence("26 to 30; 30 Nothing is DONE in fact");
        unchanged("hum, watch, auction, coughs, year", asks);
    }
}
