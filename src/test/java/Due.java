import java.util.function.Supplier;
import java.util.function.ToLongFunction;

/** Collects the answers of one test that are not the ones that are due. */
final class Due {
    private final String test;
    private String sentence = "";
    private int asked;
    private int wrong;

    Due(String test) {
        this.test = test;
    }

    /** The words of the document by which the next answers are due. */
    void sentence(String words) {
        sentence = words + ": ";
    }

    void same(String call, long got, long want) {
        asked++;
        if (got != want) {
            wrong++;
            System.out.println(test + ": " + sentence + call + " answered " + got + ", due is " + want);
        }
    }

    void truth(String what, boolean holds) {
        same(what, holds ? 1 : 0, 1);
    }

    /** Two objects made alike: the one that was asked must tell all that the other one tells. */
    void refused(Supplier<SilenceMinute> made, String call, ToLongFunction<SilenceMinute> ask, long want) {
        SilenceMinute x = made.get();
        same(call, ask.applyAsLong(x), want);
        truth(call + " changes nothing", AllTold.of(x).equals(AllTold.of(made.get())));
    }

    int asked() {
        return asked;
    }

    void end() {
        System.out.println(test + ": " + asked + " asked, " + wrong + " wrong");
        if (wrong != 0 || asked == 0) {
            System.exit(1);
        }
    }

    /** A 0 to 5, B 2 to 9, C the whole line, all in compartment 0; minute 4 is a tunnel. */
    static SilenceMinute threeRide() {
        SilenceMinute x = new SilenceMinute();
        x.ride(0, 0, 5);
        x.ride(1, 2, 9);
        x.ride(2, 0, 11);
        x.tunnel(4, true);
        return x;
    }

    /** All six ride the whole line, in compartment 0. */
    static SilenceMinute allRide(int minutes) {
        SilenceMinute x = new SilenceMinute();
        x.line(minutes);
        for (int t = 0; t < 6; t++) {
            x.ride(t, 0, 29);
        }
        return x;
    }

    /** Writes a text on an empty pad. */
    static void write(SilenceMinute x, String text) {
        x.wipe();
        for (int i = 0; i < text.length(); i++) {
            x.say(text.charAt(i));
        }
    }

    /** Does a text in fact. */
    void does(SilenceMinute x, String text, int acts) {
        write(x, text);
        same("done() of " + text, x.done(), acts);
    }

    void judged(SilenceMinute x, String text, int act, int why) {
        write(x, text);
        same("judge(0) of " + text, x.judge(0), act);
        same("judge(1) of " + text, x.judge(1), why);
    }

    void faulty(String text, int place) {
        SilenceMinute x = new SilenceMinute();
        write(x, text);
        same("fault() of " + text, x.fault(), place);
    }

    void bought(SilenceMinute x, int t, int bid, int pays) {
        same("buy(" + t + ", 0)", x.buy(t, 0), bid);
        same("buy(" + t + ", 1)", x.buy(t, 1), pays);
    }

    void seated(SilenceMinute x, int apart, int together, int ways, int first) {
        String sets = "seats(" + apart + ", " + together;
        same(sets + ", 0)", x.seats(apart, together, 0), ways);
        same(sets + ", 1)", x.seats(apart, together, 1), first);
    }

    void rich(SilenceMinute x, int compartment, int much, int traveller) {
        same("richest(0)", x.richest(0), compartment);
        same("richest(1)", x.richest(1), much);
        same("richest(2)", x.richest(2), traveller);
    }

    void watched(SilenceMinute x, int where, int many) {
        same("watch(0)", x.watch(0), where);
        same("watch(1)", x.watch(1), many);
    }

    void sold(int first, int second, int winner, int price) {
        SilenceMinute x = new SilenceMinute();
        String worths = "auction(" + first + ", " + second;
        same(worths + ", 0)", x.auction(first, second, 0), winner);
        same(worths + ", 1)", x.auction(first, second, 1), price);
    }

    void mean(SilenceMinute x, int compartment, int t, long upper, long lower) {
        String tenths = "coughs(" + compartment + ", " + t;
        same(tenths + ", 0)", x.coughs(compartment, t, 0), upper);
        same(tenths + ", 1)", x.coughs(compartment, t, 1), lower);
    }

    void years(SilenceMinute x, int seed, int m, int guard, int fines, int minute) {
        String draws = "year(" + seed + ", " + m;
        same(draws + ", 0)", x.year(seed, m, 0), guard);
        same(draws + ", 1)", x.year(seed, m, 1), fines);
        same(draws + ", 2)", x.year(seed, m, 2), minute);
    }
}
