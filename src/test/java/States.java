import java.util.LinkedHashMap;
import java.util.Map;
import java.util.function.Supplier;

/** Objects in the states in which calls are refused, each made in fewer than 150 calls. */
final class States {
    private States() {
    }

    static Map<String, Supplier<SilenceMinute>> all() {
        Map<String, Supplier<SilenceMinute>> all = new LinkedHashMap<>();
        all.put("new", SilenceMinute::new);
        all.put("busy", States::busy);
        all.put("ended", States::ended);
        all.put("full", States::full);
        return all;
    }

    /** In the midst of a ride, with rides on the pad that can be, with sights and both images. */
    static SilenceMinute busy() {
        SilenceMinute x = Due.threeRide();
        x.image(0);
        x.line(14);
        x.tunnel(8, true);
        x.tunnel(29, true);
        x.ride(3, 1, 13);
        x.ride(4, 13, 20);
        for (int t = 0; t < 6; t++) {
            x.purse(t, 60 + 7 * t);
        }
        x.seat(3, 2);
        x.seat(4, 1);
        x.fine(3);
        Due.write(x, "A05B04D02.Cc.");
        x.done();
        x.seen(3, 2);
        x.seen(4, 1);
        x.image(1);
        Due.write(x, "C07AcCs.Dc");
        return x;
    }

    /** The line is at its end, and an act on the pad can not be. */
    static SilenceMinute ended() {
        SilenceMinute x = Due.threeRide();
        Due.write(x, "A03C01............");
        x.done();
        x.image(1);
        Due.write(x, "C09.");
        return x;
    }

    /** Sixty signs, of which more must come, and eight sights. */
    static SilenceMinute full() {
        SilenceMinute x = Due.allRide(30);
        for (int n = 0; n < 8; n++) {
            x.seen(3 * n, n % 2);
        }
        Due.write(x, "A11".repeat(19) + ".B4");
        return x;
    }

    /** Tells everything of an object anew: its line, its travellers, its fine, a sight, and rides that are done. */
    static void changeAll(SilenceMinute x) {
        x.line(20);
        x.tunnel(9, true);
        for (int t = 0; t < 6; t++) {
            x.ride(t, t + 1, t + 9);
            x.seat(t, (t + 1) % 3);
            x.purse(t, 100 + t);
        }
        x.fine(7);
        x.seen(3, 3);
        Due.write(x, "..A03B04C05D06E07F08..");
        x.done();
    }
}
