/** Collects the answers of one test that are not the ones that are due. */
final class Due {
    private final String test;
    private int asked;
    private int wrong;

    Due(String test) {
        this.test = test;
    }

    void same(String call, long got, long want) {
        asked++;
        if (got != want) {
            wrong++;
            System.out.println(test + ": " + call + " answered " + got + ", due is " + want);
        }
    }

    /** A call that must answer this and leave the whole object as it was. */
    void refused(SilenceMinute x, String call, java.util.function.LongSupplier ask, long want) {
        String before = seenOf(x);
        same(call, ask.getAsLong(), want);
        truth(call + " changes nothing", before.equals(seenOf(x)));
    }

    void truth(String what, boolean holds) {
        same(what, holds ? 1 : 0, 1);
    }

    void end() {
        System.out.println(test + ": " + asked + " asked, " + wrong + " wrong");
        if (wrong != 0 || asked == 0) {
            System.exit(1);
        }
    }

    /** A 0 to 5, B 2 to 9, C the whole line, all in compartment 0; minute 4 is a tunnel. */
    static SilenceMinute threeRide() {
        SilenceMinute x = new SilenceMinute();
        x.ride(0, 0, 5);
        x.ride(1, 2, 9);
        x.ride(2, 0, 11);
        x.tunnel(4, true);
        return x;
    }

    /** Writes a text on an empty pad. */
    static void write(SilenceMinute x, String text) {
        x.wipe();
        for (int i = 0; i < text.length(); i++) {
            x.say(text.charAt(i));
        }
    }

    /** Does a text in fact. */
    void does(SilenceMinute x, String text, int acts) {
        write(x, text);
        same("done() of " + text, x.done(), acts);
    }

    /** All that can be seen of an object without changing it. */
    static String seenOf(SilenceMinute x) {
        StringBuilder b = new StringBuilder();
        for (int what = 0; what < 65; what++) {
            b.append(x.told(what)).append(' ');
        }
        b.append(x.hum()).append(' ').append(x.fault()).append(' ').append(x.judge(0)).append(' ').append(x.judge(1));
        for (int what = 0; what <= 8; what++) {
            b.append(' ').append(x.behind(what));
        }
        return b.toString();
    }
}
