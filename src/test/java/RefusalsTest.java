import java.util.Map;
import java.util.function.Supplier;
import java.util.function.ToLongFunction;

/** Each call that is refused, which refusal comes first, and that nothing is changed behind it. */
public final class RefusalsTest {
    private static final int MIN = Integer.MIN_VALUE;
    private static final int MAX = Integer.MAX_VALUE;
    private static final int UNKNOWN = -1;
    private static final int OUTSIDE = -2;
    private static final int STATE = -3;
    private static final int FULL = -4;
    private static final int NO = -5;
    private static final long LOST = -1000000000000000000L;
    private static final int[] NO_TRAVELLER = beside(0, 5);
    private static final int[] NO_COMPARTMENT = beside(0, 2);
    private static final int[] NO_MINUTE = beside(0, 29);
    private static final int[] NEITHER_0_NOR_1 = beside(0, 1);
    private static final Map<String, Supplier<SilenceMinute>> STATES = States.all();
    private static final Due due = new Due("RefusalsTest");

    public static void main(String[] args) {
        line();
        tunnel();
        ride();
        seat();
        purse();
        fine();
        say();
        judge();
        done();
        behind();
        holdsAndHears();
        forecast();
        restsAndTalks();
        buy();
        seats();
        wordAndHeard();
        richest();
        seen();
        watch();
        auction();
        coughs();
        year();
        imageAndRestore();
        told();
        due.end();
    }

    /** The first numbers that are not taken, and the farthest ones, at both ends. */
    private static int[] beside(int least, int most) {
        return new int[] {least - 1, most + 1, MIN, MAX};
    }

    private static void refused(String call, ToLongFunction<SilenceMinute> ask, long want) {
        for (Map.Entry<String, Supplier<SilenceMinute>> state : STATES.entrySet()) {
            due.refused(state.getValue(), call + ", " + state.getKey(), ask, want);
        }
    }

    private static Supplier<SilenceMinute> withPad(Supplier<SilenceMinute> made, String text) {
        return () -> {
            SilenceMinute x = made.get();
            Due.write(x, text);
            return x;
        };
    }

    private static void line() {
        due.sentence("2 LONG 1 to 30; OUTSIDE");
        for (int v : beside(1, 30)) {
            refused("line(" + v + ")", x -> x.line(v), OUTSIDE);
        }
        refused("line(-1)", x -> x.line(-1), OUTSIDE);
    }

    private static void tunnel() {
        due.sentence("3 a minute (0 to 29); OUTSIDE");
        for (int v : NO_MINUTE) {
            refused("tunnel(" + v + ", true)", x -> x.tunnel(v, true), OUTSIDE);
            refused("tunnel(" + v + ", false)", x -> x.tunnel(v, false), OUTSIDE);
        }
    }

    private static void ride() {
        due.sentence("4 UNKNOWN");
        for (int t : NO_TRAVELLER) {
            refused("ride(" + t + ", 0, 0)", x -> x.ride(t, 0, 0), UNKNOWN);
            refused("ride(" + t + ", -1, 0)", x -> x.ride(t, -1, 0), UNKNOWN);
        }
        due.sentence("4 from one minute through another one (0 to 29; from -1: not at all); OUTSIDE");
        for (int v : beside(-1, 29)) {
            refused("ride(2, " + v + ", 29)", x -> x.ride(2, v, 29), OUTSIDE);
        }
        for (int v : NO_MINUTE) {
            refused("ride(2, 0, " + v + ")", x -> x.ride(2, 0, v), OUTSIDE);
        }
        refused("ride(2, 30, 30)", x -> x.ride(2, 30, 30), OUTSIDE);
        refused("ride(2, -2, -2)", x -> x.ride(2, -2, -2), OUTSIDE);
        due.sentence("4 OUTSIDE: from above to, too");
        refused("ride(2, 1, 0)", x -> x.ride(2, 1, 0), OUTSIDE);
        refused("ride(2, 29, 28)", x -> x.ride(2, 29, 28), OUTSIDE);
        refused("ride(2, 0, -1)", x -> x.ride(2, 0, -1), OUTSIDE);
        due.sentence("4 UNKNOWN ahead of OUTSIDE");
        refused("ride(6, 5, 4)", x -> x.ride(6, 5, 4), UNKNOWN);
        refused("ride(-1, 30, 30)", x -> x.ride(-1, 30, 30), UNKNOWN);
    }

    private static void seat() {
        due.sentence("5 UNKNOWN: both");
        for (int t : NO_TRAVELLER) {
            refused("seat(" + t + ", 1)", x -> x.seat(t, 1), UNKNOWN);
        }
        for (int c : NO_COMPARTMENT) {
            refused("seat(2, " + c + ")", x -> x.seat(2, c), UNKNOWN);
        }
        refused("seat(6, 3)", x -> x.seat(6, 3), UNKNOWN);
    }

    private static void purse() {
        due.sentence("6 UNKNOWN");
        for (int t : NO_TRAVELLER) {
            refused("purse(" + t + ", 9)", x -> x.purse(t, 9), UNKNOWN);
        }
        due.sentence("6 PURSE (0 to 999); OUTSIDE");
        for (int v : beside(0, 999)) {
            refused("purse(2, " + v + ")", x -> x.purse(2, v), OUTSIDE);
        }
        due.sentence("6 UNKNOWN ahead of OUTSIDE");
        refused("purse(6, 1000)", x -> x.purse(6, 1000), UNKNOWN);
        refused("purse(-1, -1)", x -> x.purse(-1, -1), UNKNOWN);
    }

    private static void fine() {
        due.sentence("7 the FINE (0 to 99); OUTSIDE");
        for (int v : beside(0, 99)) {
            refused("fine(" + v + ")", x -> x.fine(v), OUTSIDE);
        }
    }

    private static void say() {
        due.sentence("8 codes 33 to 126; OUTSIDE");
        for (int v : beside(33, 126)) {
            refused("say(" + v + ")", x -> x.say(v), OUTSIDE);
        }
        refused("say(0)", x -> x.say(0), OUTSIDE);
        // 'A' and 65536 more: what a cut to 16 bits would take for a sign.
        refused("say(65601)", x -> x.say(65601), OUTSIDE);
        due.sentence("8 60 SIGNS at most; FULL");
        due.refused(States::full, "say('.')", x -> x.say('.'), FULL);
        due.refused(States::full, "say(33)", x -> x.say(33), FULL);
        due.refused(States::full, "say(126)", x -> x.say(126), FULL);
        due.refused(withPad(States::busy, ".".repeat(60)), "say('A')", x -> x.say('A'), FULL);
        due.sentence("8 OUTSIDE ahead of FULL");
        due.refused(States::full, "say(32)", x -> x.say(32), OUTSIDE);
        due.refused(States::full, "say(127)", x -> x.say(127), OUTSIDE);
    }

    private static void judge() {
        due.sentence("11 OUTSIDE, ahead of NO too");
        for (int v : NEITHER_0_NOR_1) {
            refused("judge(" + v + ")", x -> x.judge(v), OUTSIDE);
        }
        due.sentence("11 NO: there is a FAULT");
        for (String text : new String[] {"A", "A1", "G", ".c", "FcG", "FcA1", "...............A"}) {
            Supplier<SilenceMinute> made = withPad(States::busy, text);
            due.refused(made, "judge(0) of " + text, x -> x.judge(0), NO);
            due.refused(made, "judge(1) of " + text, x -> x.judge(1), NO);
        }
        due.refused(States::full, "judge(0) of 60 signs", x -> x.judge(0), NO);
    }

    private static void done() {
        due.sentence("12 NO: there is a FAULT");
        for (String text : new String[] {"A", "A1", "G", ".c", "A05A", "A05A7", "A05.x"}) {
            due.refused(withPad(States::busy, text), "done() of " + text, SilenceMinute::done, NO);
        }
        due.refused(States::full, "done() of 60 signs", SilenceMinute::done, NO);
        due.sentence("12 NO: or an ACT that can not be");
        for (String text : new String[] {"Fc", "Fs", "Fh", "A05Bs", "A09.Cs", ".............", "A07B07C07.Fh"}) {
            due.refused(withPad(States::busy, text), "done() of " + text, SilenceMinute::done, NO);
        }
        due.refused(States::ended, "done() at the end", SilenceMinute::done, NO);
    }

    private static void behind() {
        due.sentence("13 what 0 to 8; OUTSIDE, ahead of NO too");
        for (int v : beside(0, 8)) {
            refused("behind(" + v + ")", x -> x.behind(v), OUTSIDE);
            due.refused(withPad(States::busy, "A"), "a fault, behind(" + v + ")", x -> x.behind(v), OUTSIDE);
            due.refused(withPad(States::busy, "Fc"), "no rider, behind(" + v + ")", x -> x.behind(v), OUTSIDE);
        }
        due.sentence("13 NO, as of done()");
        for (int what = 0; what <= 8; what++) {
            int w = what;
            due.refused(withPad(States::busy, ".A"), "behind(" + w + ") of a fault", x -> x.behind(w), NO);
            due.refused(withPad(States::busy, ".Fc"), "behind(" + w + ") of no rider", x -> x.behind(w), NO);
            due.refused(States::ended, "behind(" + w + ") at the end", x -> x.behind(w), NO);
        }
    }

    private static void holdsAndHears() {
        due.sentence("14 UNKNOWN");
        for (int c : NO_COMPARTMENT) {
            refused("holds(" + c + ")", x -> x.holds(c), UNKNOWN);
        }
        due.sentence("15 UNKNOWN");
        for (int t : NO_TRAVELLER) {
            refused("hears(" + t + ")", x -> x.hears(t), UNKNOWN);
        }
    }

    private static void forecast() {
        due.sentence("16 UNKNOWN");
        for (int c : NO_COMPARTMENT) {
            refused("forecast(" + c + ", 0)", x -> x.forecast(c, 0), UNKNOWN);
        }
        due.sentence("16 d minutes from now (0 to 30); OUTSIDE");
        for (int d : beside(0, 30)) {
            refused("forecast(0, " + d + ")", x -> x.forecast(0, d), OUTSIDE);
        }
        due.sentence("16 UNKNOWN ahead of OUTSIDE");
        refused("forecast(3, 31)", x -> x.forecast(3, 31), UNKNOWN);
        refused("forecast(-1, -1)", x -> x.forecast(-1, -1), UNKNOWN);
    }

    private static void restsAndTalks() {
        due.sentence("17, 18 UNKNOWN: both");
        for (int t : NO_TRAVELLER) {
            refused("rests(" + t + ")", x -> x.rests(t), UNKNOWN);
            refused("talks(" + t + ", 0)", x -> x.talks(t, 0), UNKNOWN);
            refused("talks(0, " + t + ")", x -> x.talks(0, t), UNKNOWN);
        }
        due.sentence("18 UNKNOWN: also one");
        for (int t = 0; t < 6; t++) {
            int same = t;
            refused("talks(" + t + ", " + t + ")", x -> x.talks(same, same), UNKNOWN);
        }
        refused("talks(6, 6)", x -> x.talks(6, 6), UNKNOWN);
    }

    private static void buy() {
        due.sentence("19 UNKNOWN");
        for (int t : NO_TRAVELLER) {
            refused("buy(" + t + ", 0)", x -> x.buy(t, 0), UNKNOWN);
        }
        due.sentence("19 OUTSIDE, of one who rides no more too");
        for (int v : NEITHER_0_NOR_1) {
            refused("buy(2, " + v + ")", x -> x.buy(2, v), OUTSIDE);
            refused("buy(5, " + v + ")", x -> x.buy(5, v), OUTSIDE);
        }
        due.sentence("19 UNKNOWN ahead of OUTSIDE");
        refused("buy(6, 2)", x -> x.buy(6, 2), UNKNOWN);
        refused("buy(-1, -1)", x -> x.buy(-1, -1), UNKNOWN);
    }

    private static void seats() {
        due.sentence("20 OUTSIDE: sets 0 to 32767");
        for (int v : beside(0, 32767)) {
            refused("seats(" + v + ", 0, 0)", x -> x.seats(v, 0, 0), OUTSIDE);
            refused("seats(0, " + v + ", 1)", x -> x.seats(0, v, 1), OUTSIDE);
        }
        for (int v : NEITHER_0_NOR_1) {
            refused("seats(0, 0, " + v + ")", x -> x.seats(0, 0, v), OUTSIDE);
        }
    }

    private static void wordAndHeard() {
        due.sentence("21 UNKNOWN; 22 UNKNOWN: both");
        for (int t : NO_TRAVELLER) {
            refused("word(" + t + ", 0)", x -> x.word(t, 0), UNKNOWN);
            refused("heard(" + t + ", 0, 0)", x -> x.heard(t, 0, 0), UNKNOWN);
            refused("heard(0, 0, " + t + ")", x -> x.heard(0, 0, t), UNKNOWN);
        }
        refused("heard(6, 0, 6)", x -> x.heard(6, 0, 6), UNKNOWN);
        due.sentence("21, 22 from minute m on (0 to 29); OUTSIDE, of himself too");
        for (int m : NO_MINUTE) {
            refused("word(0, " + m + ")", x -> x.word(0, m), OUTSIDE);
            refused("heard(0, " + m + ", 2)", x -> x.heard(0, m, 2), OUTSIDE);
            refused("heard(0, " + m + ", 0)", x -> x.heard(0, m, 0), OUTSIDE);
        }
        due.sentence("21, 22 UNKNOWN ahead of OUTSIDE");
        refused("word(6, 30)", x -> x.word(6, 30), UNKNOWN);
        refused("heard(6, 30, 0)", x -> x.heard(6, 30, 0), UNKNOWN);
        refused("heard(0, -1, 6)", x -> x.heard(0, -1, 6), UNKNOWN);
    }

    private static void richest() {
        due.sentence("23 OUTSIDE");
        for (int v : beside(0, 2)) {
            refused("richest(" + v + ")", x -> x.richest(v), OUTSIDE);
        }
    }

    private static void seen() {
        due.sentence("24 UNKNOWN, ahead of FULL too");
        for (int t : NO_TRAVELLER) {
            refused("seen(0, " + t + ")", x -> x.seen(0, t), UNKNOWN);
        }
        due.sentence("24 in a minute (0 to 29); OUTSIDE, ahead of FULL too");
        for (int m : NO_MINUTE) {
            refused("seen(" + m + ", 0)", x -> x.seen(m, 0), OUTSIDE);
        }
        due.sentence("24 UNKNOWN ahead of OUTSIDE, and of FULL");
        refused("seen(30, 6)", x -> x.seen(30, 6), UNKNOWN);
        refused("seen(-1, -1)", x -> x.seen(-1, -1), UNKNOWN);
        due.sentence("24 8 at most; FULL");
        due.refused(States::full, "seen(0, 0)", x -> x.seen(0, 0), FULL);
        due.refused(States::full, "seen(29, 5)", x -> x.seen(29, 5), FULL);
    }

    private static void watch() {
        due.sentence("27 OUTSIDE, also if nobody may be");
        for (int v : NEITHER_0_NOR_1) {
            refused("watch(" + v + ")", x -> x.watch(v), OUTSIDE);
        }
    }

    private static void auction() {
        due.sentence("28 worth 0 to 20 each; OUTSIDE");
        for (int v : beside(0, 20)) {
            refused("auction(" + v + ", 1, 0)", x -> x.auction(v, 1, 0), OUTSIDE);
            refused("auction(9, " + v + ", 1)", x -> x.auction(9, v, 1), OUTSIDE);
        }
        for (int v : NEITHER_0_NOR_1) {
            refused("auction(9, 1, " + v + ")", x -> x.auction(9, 1, v), OUTSIDE);
        }
    }

    private static void coughs() {
        due.sentence("29 refused with LOST and the refusal: UNKNOWN");
        for (int c : NO_COMPARTMENT) {
            refused("coughs(" + c + ", 5, 0)", x -> x.coughs(c, 5, 0), LOST + UNKNOWN);
        }
        due.sentence("29 t tenths (0 to 10), part 0 and 1; OUTSIDE");
        for (int t : beside(0, 10)) {
            refused("coughs(0, " + t + ", 0)", x -> x.coughs(0, t, 0), LOST + OUTSIDE);
        }
        for (int part : NEITHER_0_NOR_1) {
            refused("coughs(0, 5, " + part + ")", x -> x.coughs(0, 5, part), LOST + OUTSIDE);
        }
        due.sentence("29 UNKNOWN ahead of OUTSIDE");
        refused("coughs(3, 11, 0)", x -> x.coughs(3, 11, 0), LOST + UNKNOWN);
        refused("coughs(-1, 5, 2)", x -> x.coughs(-1, 5, 2), LOST + UNKNOWN);
    }

    private static void year() {
        due.sentence("30 a seed (0 to 9999), m ACTS (1 to 99); OUTSIDE");
        for (int v : beside(0, 9999)) {
            refused("year(" + v + ", 9, 0)", x -> x.year(v, 9, 0), OUTSIDE);
        }
        for (int m : beside(1, 99)) {
            refused("year(9, " + m + ", 1)", x -> x.year(9, m, 1), OUTSIDE);
        }
        for (int what : beside(0, 2)) {
            refused("year(9, 9, " + what + ")", x -> x.year(9, 9, what), OUTSIDE);
        }
    }

    private static void imageAndRestore() {
        due.sentence("31, 32 an IMAGE (0, 1); OUTSIDE");
        for (int n : NEITHER_0_NOR_1) {
            refused("image(" + n + ")", x -> x.image(n), OUTSIDE);
            // In a new object it was not kept either: OUTSIDE comes ahead of STATE.
            refused("restore(" + n + ")", x -> x.restore(n), OUTSIDE);
        }
        due.sentence("32 STATE: it was not");
        due.refused(SilenceMinute::new, "restore(0)", x -> x.restore(0), STATE);
        due.refused(SilenceMinute::new, "restore(1)", x -> x.restore(1), STATE);
        due.refused(States::full, "restore(0)", x -> x.restore(0), STATE);
        due.refused(States::ended, "restore(0), 1 is kept", x -> x.restore(0), STATE);
    }

    private static void told() {
        due.sentence("33 OUTSIDE");
        for (int what : new int[] {-1, 7, 9, 15, 19, 25, 59, 65, 70, 74, 100, -10, -60, MIN, MAX}) {
            refused("told(" + what + ")", x -> x.told(what), OUTSIDE);
        }
    }
}
