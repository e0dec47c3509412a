import java.util.Random;

/** Any arguments in any state: nothing is thrown, and it is all as if refused calls had not been made. */
public final class WildTest {
    private static final int[] EDGES = {Integer.MIN_VALUE, Integer.MAX_VALUE, -1000000, -7, -2, -1, 0, 1, 2, 3, 5, 6,
        9, 10, 11, 12, 20, 21, 29, 30, 31, 60, 65, 99, 100, 999, 1000, 9999, 10000, 32767, 32768, 65537};
    // Behind them the objects tell all, in some 300 calls more of their 512.
    private static final int CALLS = 200;
    private static final Due due = new Due("WildTest");
    private static final Random draw = new Random(7);

    public static void main(String[] args) {
        for (int run = 0; run < 3000; run++) {
            SilenceMinute x = new SilenceMinute();
            SilenceMinute unrefused = new SilenceMinute();
            for (int call = 0; call < CALLS; call++) {
                callBoth(x, unrefused, run);
            }
            due.truth("run " + run + " changes nothing by refused calls", AllTold.of(x).equals(AllTold.of(unrefused)));
        }
        due.end();
    }

    private static int any() {
        int kind = draw.nextInt(8);
        if (kind == 0) {
            return draw.nextInt();
        }
        return kind < 3 ? EDGES[draw.nextInt(EDGES.length)] : draw.nextInt(7);
    }

    private static void callBoth(SilenceMinute x, SilenceMinute unrefused, int run) {
        int which = draw.nextInt(33);
        int a = any();
        int b = any();
        int c = any();
        String call = "run " + run + ", call " + which + " (" + a + ", " + b + ", " + c + ")";
        try {
            long answer = call(x, which, a, b, c);
            boolean refused = answer >= -5 && answer <= -1 || answer < SilenceMinute.LOST;
            if (!refused) {
                due.same(call, answer, call(unrefused, which, a, b, c));
            }
        } catch (RuntimeException e) {
            due.truth(call + " throws " + e, false);
        }
    }

    private static long call(SilenceMinute x, int which, int a, int b, int c) {
        return which < 17 ? early(x, which, a, b, c) : late(x, which, a, b, c);
    }

    private static long early(SilenceMinute x, int which, int a, int b, int c) {
        return switch (which) {
            case 0 -> x.line(a);
            case 1 -> x.tunnel(a, b > 2);
            case 2 -> x.ride(a, b, c);
            case 3 -> x.seat(a, b);
            case 4 -> x.purse(a, b);
            case 5 -> x.fine(a);
            case 6 -> x.say("ABCDEF0123456789csh....".charAt(Math.floorMod(a, 23)));
            case 7 -> x.say(a);
            case 8 -> a == 0 ? x.wipe() : x.fault();
            case 9 -> x.judge(a);
            case 10 -> x.done();
            case 11 -> x.behind(a);
            case 12 -> x.holds(a);
            case 13 -> x.hears(a);
            case 14 -> x.forecast(a, b);
            case 15 -> x.rests(a);
            default -> x.talks(a, b);
        };
    }

    private static long late(SilenceMinute x, int which, int a, int b, int c) {
        return switch (which) {
            case 17 -> x.buy(a, b);
            case 18 -> x.seats(a, b, c);
            case 19 -> x.word(a, b);
            case 20 -> x.heard(a, b, c);
            case 21 -> x.richest(a);
            case 22 -> x.seen(a, b);
            case 23 -> a == 0 ? x.forget() : x.hum();
            case 24 -> x.watch(a);
            case 25 -> x.auction(a, b, c);
            case 26 -> x.coughs(a, b, c);
            case 27 -> x.year(a, b, c);
            case 28 -> x.image(a);
            case 29 -> x.restore(a);
            case 30 -> x.told(a);
            case 31 -> x.say('.');
            default -> x.say('A' + Math.floorMod(a, 6));
        };
    }
}
