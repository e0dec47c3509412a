import java.util.Random;

/** Runs by draws: the class and the second reading must answer the same to every call. */
public final class SecondReadingTest {
    private static final int RUNS = 1500;
    // An object is used for 512 calls, and the dearest question makes some 25.
    private static final int CALLS = 480;
    private static final Due due = new Due("SecondReadingTest");
    private static Random draw;
    private static SilenceMinute x;
    private static SecondReading y;
    private static String[] rest = {"A05", "B12", "C07", "D09", "E30", "F01", "Ac", "Bc", "Cc", "Ds", "As", "Fh", ".", "."};

    public static void main(String[] args) {
        allAuctions();
        for (int run = 0; run < RUNS; run++) {
            draw = new Random(run);
            x = new SilenceMinute();
            y = new SecondReading();
            begin();
            askOn(run);
        }
        due.end();
    }

    private static void allAuctions() {
        for (int first = 0; first <= 20; first++) {
            x = new SilenceMinute();
            y = new SecondReading();
            for (int second = 0; second <= 20; second++) {
                for (int what = 0; what <= 1; what++) {
                    String call = "auction(" + first + ", " + second + ", " + what + ")";
                    due.same(call, x.auction(first, second, what), y.auction(first, second, what));
                }
            }
        }
    }

    /** A number mostly from 0 to most, now and then just beside. */
    private static int number(int most) {
        int kind = draw.nextInt(60);
        if (kind == 0) {
            return -1;
        }
        return kind == 1 ? most + 1 : draw.nextInt(most + 1);
    }

    private static void begin() {
        for (int t = 0; t < 6; t++) {
            if (draw.nextInt(4) > 0) {
                int from = draw.nextInt(12);
                int to = from + draw.nextInt(30 - from);
                due.same("ride", x.ride(t, from, to), y.ride(t, from, to));
            }
        }
    }

    private static void write(int run) {
        due.same(run + " wipe", x.wipe(), y.wipe());
        int acts = draw.nextInt(8);
        for (int n = 0; n < acts; n++) {
            String act = rest[draw.nextInt(rest.length)];
            for (int i = 0; i < act.length(); i++) {
                due.same(run + " say", x.say(act.charAt(i)), y.say(act.charAt(i)));
            }
        }
        if (draw.nextInt(8) == 0) {
            int sign = "ABCDEF0123456789csh.Gx!".charAt(draw.nextInt(23));
            due.same(run + " say " + sign, x.say(sign), y.say(sign));
        }
        due.same(run + " fault", x.fault(), y.fault());
    }

    private static void askOn(int run) {
        int before = due.asked();
        for (int question = 0; question < CALLS && due.asked() - before < CALLS; question++) {
            ask(run);
        }
    }

    private static void ask(int run) {
        int group = draw.nextInt(5);
        if (group == 0) {
            askLine(run);
        } else if (group == 1) {
            askRides(run);
        } else if (group == 2) {
            askBids(run);
        } else if (group == 3) {
            askHums(run);
        } else {
            int what = draw.nextInt(80) - 5;
            due.same(run + " told(" + what + ")", x.told(what), y.told(what));
        }
    }

    private static void askLine(int run) {
        int t = number(5);
        int a = number(29);
        int b = number(29);
        int c = number(2);
        boolean is = draw.nextInt(3) > 0;
        switch (draw.nextInt(12)) {
            case 0 -> due.same(run + " line(" + a + ")", x.line(a), y.line(a));
            case 1, 2, 3 -> due.same(run + " tunnel(" + a + ")", x.tunnel(a, is && b < 15), y.tunnel(a, is && b < 15));
            case 4, 5 -> due.same(run + " ride", x.ride(t, Math.min(a, b), Math.max(a, b)),
                y.ride(t, Math.min(a, b), Math.max(a, b)));
            case 6 -> due.same(run + " ride", x.ride(t, a, b), y.ride(t, a, b));
            case 7, 8 -> due.same(run + " seat", x.seat(t, c), y.seat(t, c));
            case 9, 10 -> purse(run, t);
            default -> due.same(run + " fine", x.fine(a / 2), y.fine(a / 2));
        }
    }

    private static void purse(int run, int t) {
        int v = draw.nextBoolean() ? number(100) : number(999);
        due.same(run + " purse(" + t + ", " + v + ")", x.purse(t, v), y.purse(t, v));
    }

    private static void askRides(int run) {
        int t = number(5);
        int u = number(5);
        int c = number(2);
        int d = number(30);
        int what = number(8);
        switch (draw.nextInt(11)) {
            case 0, 1 -> write(run);
            case 2 -> due.same(run + " judge", x.judge(c), y.judge(c));
            case 3, 4 -> due.same(run + " done", x.done(), y.done());
            case 5 -> due.same(run + " behind(" + what + ")", x.behind(what), y.behind(what));
            case 6 -> due.same(run + " holds(" + c + ")", x.holds(c), y.holds(c));
            case 7 -> due.same(run + " hears(" + t + ")", x.hears(t), y.hears(t));
            case 8 -> due.same(run + " forecast(" + c + ", " + d + ")", x.forecast(c, d), y.forecast(c, d));
            case 9 -> due.same(run + " rests(" + t + ")", x.rests(t), y.rests(t));
            default -> due.same(run + " talks(" + t + ", " + u + ")", x.talks(t, u), y.talks(t, u));
        }
    }

    private static void askBids(int run) {
        int t = number(5);
        int u = number(5);
        int m = number(29);
        int what = number(1);
        switch (draw.nextInt(5)) {
            case 0 -> due.same(run + " buy(" + t + ", " + what + ")", x.buy(t, what), y.buy(t, what));
            case 1 -> seats(run);
            case 2 -> due.same(run + " word(" + t + ", " + m + ")", x.word(t, m), y.word(t, m));
            case 3 -> due.same(run + " heard(" + t + ", " + m + ", " + u + ")", x.heard(t, m, u), y.heard(t, m, u));
            default -> due.same(run + " richest(" + u + ")", x.richest(u), y.richest(u));
        }
    }

    private static void seats(int run) {
        if (draw.nextInt(4) > 0) {
            return;
        }
        int apart = number(32767) & number(32767) & number(32767);
        int together = number(32767) & number(32767) & number(32767) & number(32767);
        int what = number(1);
        String call = run + " seats(" + apart + ", " + together + ", " + what + ")";
        due.same(call, x.seats(apart, together, what), y.seats(apart, together, what));
    }

    private static void askHums(int run) {
        int t = number(5);
        int m = number(29);
        int c = number(2);
        int what = number(1);
        int tenths = number(10);
        int seed = number(9999);
        int acts = number(99);
        switch (draw.nextInt(9)) {
            case 0 -> due.same(run + " seen", x.seen(m, t), y.seen(m, t));
            case 1 -> due.same(run + " forget", x.forget(), y.forget());
            case 2 -> due.same(run + " hum", x.hum(), y.hum());
            case 3, 4 -> due.same(run + " watch(" + what + ")", x.watch(what), y.watch(what));
            case 5 -> due.same(run + " coughs", x.coughs(c, tenths, what), y.coughs(c, tenths, what));
            case 6 -> due.same(run + " year", x.year(seed, acts, c), y.year(seed, acts, c));
            case 7 -> due.same(run + " image(" + what + ")", x.image(what), y.image(what));
            default -> due.same(run + " restore(" + what + ")", x.restore(what), y.restore(what));
        }
    }
}
