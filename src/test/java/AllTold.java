/** All that an object tells, by every call that answers something of its state. */
final class AllTold {
    private final SilenceMinute x;
    private final StringBuilder text = new StringBuilder();

    private AllTold(SilenceMinute x) {
        this.x = x;
    }

    /** Uses the object up: some 310 calls, the last of which do its rides and bring its images back. */
    static String of(SilenceMinute x) {
        AllTold all = new AllTold(x);
        all.state();
        all.rides();
        all.travellers();
        all.twos();
        all.compartments();
        all.rest();
        all.note(x.done());
        all.state();
        for (int n = 0; n < 2; n++) {
            all.note(x.restore(n));
            all.state();
        }
        return all.text.toString();
    }

    /** What told() alone tells: 37 calls, which change nothing. */
    static String stateOf(SilenceMinute x) {
        AllTold all = new AllTold(x);
        all.state();
        return all.text.toString();
    }

    private void note(long answer) {
        text.append(answer).append(' ');
    }

    private void state() {
        for (int what = 0; what <= 6; what++) {
            note(x.told(what));
        }
        for (int t = 1; t <= 6; t++) {
            for (int what = 0; what <= 4; what++) {
                note(x.told(10 * t + what));
            }
        }
        note(x.hum());
    }

    private void rides() {
        note(x.fault());
        note(x.judge(0));
        note(x.judge(1));
        for (int what = 0; what <= 8; what++) {
            note(x.behind(what));
        }
    }

    private void travellers() {
        for (int t = 0; t < 6; t++) {
            note(x.hears(t));
            note(x.rests(t));
            note(x.buy(t, 0));
            note(x.buy(t, 1));
            note(x.word(t, 0));
        }
    }

    private void twos() {
        for (int t = 0; t < 6; t++) {
            for (int other = 0; other < 6; other++) {
                note(x.talks(t, other));
                note(x.heard(t, 0, other));
            }
        }
    }

    private void compartments() {
        for (int c = 0; c < 3; c++) {
            note(x.holds(c));
            note(x.forecast(c, 1));
            note(x.forecast(c, 7));
            note(x.coughs(c, 3, 0));
            note(x.coughs(c, 3, 1));
        }
    }

    private void rest() {
        for (int what = 0; what <= 1; what++) {
            note(x.seats(0, 0, what));
            note(x.seats(1, 2, what));
            note(x.watch(what));
        }
        for (int what = 0; what <= 2; what++) {
            note(x.richest(what));
            note(x.year(77, 99, what));
        }
    }
}
