/** Promises 1 to 10: the line, travellers, the pad. */
public final class LineTest {
    private static final int MIN = Integer.MIN_VALUE;
    private static final Due due = new Due("LineTest");

    public static void main(String[] args) {
        promise1New();
        promise2Line();
        promise3Tunnel();
        promise4Ride();
        promise5Seat();
        promise6Purse();
        promise7Fine();
        promise8Say();
        promise9Wipe();
        promise10Fault();
        due.end();
    }

    private static void promise1New() {
        SilenceMinute x = new SilenceMinute();
        int[] first = {0, 12, 0, 0, 2, 0, 0};
        for (int what = 0; what < first.length; what++) {
            due.same("1 told(" + what + ")", x.told(what), first[what]);
        }
        for (int t = 0; t < 6; t++) {
            int at = 10 * (1 + t);
            due.same("1 from", x.told(at), -6);
            due.same("1 to", x.told(at + 1), -6);
            due.same("1 compartment", x.told(at + 2), 0);
            due.same("1 purse", x.told(at + 3), 50);
            due.same("1 bid", x.told(at + 4), 0);
        }
        due.same("1 hum", x.hum(), 0);
        due.same("1 restore(0)", x.restore(0), -3);
        due.same("1 restore(1)", x.restore(1), -3);
    }

    private static void promise2Line() {
        SilenceMinute x = new SilenceMinute();
        due.same("2 line(30)", x.line(30), 12);
        due.same("2 line(1)", x.line(1), 30);
        due.same("2 line(20)", x.line(20), 1);
        due.does(x, "...", 3);
        due.same("2 the minute", x.told(2), 3);
        due.same("2 line(20) again", x.line(20), 20);
        due.same("2 minute 0", x.told(2), 0);
    }

    private static void promise3Tunnel() {
        SilenceMinute x = new SilenceMinute();
        due.same("3 tunnel(0)", x.tunnel(0, true), 1);
        due.same("3 tunnel(11)", x.tunnel(11, true), 2);
        due.same("3 tunnel(11) again", x.tunnel(11, true), 2);
        due.same("3 tunnel(12), behind the line", x.tunnel(12, true), 2);
        due.same("3 tunnel(29)", x.tunnel(29, true), 2);
        due.same("3 bits", x.told(6), 1 | 1 << 11 | 1 << 12 | 1 << 29);
        x.line(13);
        due.same("3 the line reaches 12", x.tunnel(5, false), 3);
        due.same("3 tunnel(0, false)", x.tunnel(0, false), 2);
    }

    private static void promise4Ride() {
        SilenceMinute x = new SilenceMinute();
        due.same("4 ride(5, 3, 3)", x.ride(5, 3, 3), 1);
        due.same("4 from", x.told(60), 3);
        due.same("4 to", x.told(61), 3);
        due.same("4 over the end", x.ride(5, 10, 29), 2);
        due.same("4 to is as told", x.told(61), 29);
        due.same("4 behind the end", x.ride(5, 12, 20), 0);
        due.same("4 all", x.ride(0, 0, 29), 12);
        due.same("4 not at all", x.ride(0, -1, 99), 0);
        due.same("4 no from", x.told(10), -6);
        due.same("4 no to", x.told(11), -6);
        due.same("4 not at all, whatever to", x.ride(5, -1, MIN), 0);
    }

    private static void promise5Seat() {
        SilenceMinute x = new SilenceMinute();
        due.same("5 seat(5, 2)", x.seat(5, 2), 0);
        due.same("5 seat(5, 1)", x.seat(5, 1), 2);
        due.same("5 told", x.told(62), 1);
        due.same("5 others stay", x.told(52), 0);
    }

    private static void promise6Purse() {
        SilenceMinute x = new SilenceMinute();
        due.same("6 purse(3, 999)", x.purse(3, 999), 50);
        due.same("6 purse(3, 0)", x.purse(3, 0), 999);
        due.same("6 told", x.told(43), 0);
    }

    private static void promise7Fine() {
        SilenceMinute x = new SilenceMinute();
        due.same("7 fine(99)", x.fine(99), 2);
        due.same("7 fine(0)", x.fine(0), 99);
        due.same("7 told", x.told(4), 0);
    }

    private static void promise8Say() {
        SilenceMinute x = new SilenceMinute();
        due.same("8 say(33)", x.say(33), 1);
        due.same("8 say(126)", x.say(126), 2);
        for (int n = 3; n <= 60; n++) {
            due.same("8 say '.'", x.say('.'), n);
        }
        due.same("8 signs", x.told(0), 60);
    }

    private static void promise9Wipe() {
        SilenceMinute x = new SilenceMinute();
        due.same("9 wipe, empty", x.wipe(), 0);
        Due.write(x, "A1");
        due.same("9 wipe", x.wipe(), 2);
        due.same("9 no sign is left", x.told(0), 0);
        due.same("9 wipe again", x.wipe(), 0);
        Due.write(x, ".");
        due.same("9 new signs alone count", x.fault(), -6);
    }

    private static void promise10Fault() {
        String[] texts = {"", ".", "A00", "F99", "Ac", "Bs", "Ch", "....", "A05.BcCsDh.",
            "A", "A1", "AcB", "AcB4", "G", "c", "5", "a", "@", "..!", "Ax", "A.", "AA", "A1c", "A1.", "A123",
            "Acc", "A/0", "A:0", "A0/", "A0:", "A05G", "AC", "A~", "Ah~"};
        int[] places = {-6, -6, -6, -6, -6, -6, -6, -6, -6,
            1, 2, 3, 4, 0, 0, 0, 0, 0, 2, 1, 1, 1, 2, 2, 3,
            2, 1, 1, 2, 2, 3, 1, 1, 2};
        SilenceMinute x = new SilenceMinute();
        due.same("10 as many places as texts", places.length, texts.length);
        for (int i = 0; i < texts.length; i++) {
            Due.write(x, texts[i]);
            due.same("10 fault() of " + texts[i], x.fault(), places[i]);
        }
        Due.write(x, "A11".repeat(20));
        due.same("10 a full pad", x.fault(), -6);
        Due.write(x, "A11".repeat(19) + ".A1");
        due.same("10 a full pad that must go on", x.fault(), 60);
    }
}
