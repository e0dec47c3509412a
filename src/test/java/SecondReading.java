import java.math.BigInteger;
import java.util.ArrayList;
import java.util.HashMap;
import java.util.List;
import java.util.Map;
import java.util.TreeSet;
import java.util.regex.Matcher;
import java.util.regex.Pattern;

/**
 * The document read a second time, slowly and with the whole library, so that a slip in the
 * class shows as a difference. Answers of calls that are refused are read here too.
 */
final class SecondReading {
    static final int NONE = -6, UNKNOWN = -1, OUTSIDE = -2, STATE = -3, FULL = -4, NO = -5;
    static final long LOST = -1000000000000000000L;
    private static final Pattern ACT = Pattern.compile("\\.|([A-F])(?:([0-9][0-9])|([csh]))");

    /** One who may ride; minutes is empty if he does not. */
    private static final class Person {
        TreeSet<Integer> minutes = new TreeSet<>();
        int compartment = 0;
        int purse = 50;
        int bid = 0;

        Person copy() {
            Person p = new Person();
            p.minutes = new TreeSet<>(minutes);
            p.compartment = compartment;
            p.purse = purse;
            p.bid = bid;
            return p;
        }
    }

    private static final class World {
        int length = 12;
        int minute = 0;
        int guard = 0;
        int fine = 2;
        int fines = 0;
        TreeSet<Integer> tunnels = new TreeSet<>();
        List<Person> people = new ArrayList<>();
        List<int[]> sights = new ArrayList<>();
        int[] paidFrom = new int[3];
        int[] paidBy = new int[6];

        World copy() {
            World w = new World();
            w.length = length;
            w.minute = minute;
            w.guard = guard;
            w.fine = fine;
            w.tunnels = new TreeSet<>(tunnels);
            for (Person p : people) {
                w.people.add(p.copy());
            }
            w.sights = new ArrayList<>(sights);
            return w;
        }

        boolean rides(int t, int m) {
            return m < length && people.get(t).minutes.contains(m);
        }

        boolean ridesSomewhen(int t) {
            return !people.get(t).minutes.headSet(length).isEmpty();
        }

        boolean together(int t, int u, int m) {
            return rides(t, m) && rides(u, m) && people.get(t).compartment == people.get(u).compartment;
        }

        int holder(int c) {
            if (tunnels.contains(minute)) {
                return NONE;
            }
            for (int bid = 99; bid > 0; bid--) {
                for (int t = 0; t < 6; t++) {
                    Person p = people.get(t);
                    if (p.bid == bid && p.purse >= bid && p.compartment == c && rides(t, minute)) {
                        return t;
                    }
                }
            }
            return NONE;
        }

        boolean speaks(int t) {
            if (!rides(t, minute)) {
                return false;
            }
            int h = holder(people.get(t).compartment);
            return h == NONE || h == t;
        }

        void pass() {
            int[] holders = {holder(0), holder(1), holder(2)};
            for (int c = 0; c < 3; c++) {
                if (holders[c] != NONE) {
                    Person p = people.get(holders[c]);
                    p.purse -= p.bid;
                    guard += p.bid;
                    paidFrom[c] += p.bid;
                    paidBy[holders[c]] += p.bid;
                }
            }
            minute++;
        }

        void cough(int t) {
            int h = holder(people.get(t).compartment);
            if (h == NONE || h == t) {
                return;
            }
            Person p = people.get(h);
            int v = p.purse < fine ? p.purse : fine;
            p.purse -= v;
            guard += v;
            fines += v;
        }
    }

    private World w = new World();
    private String pad = "";
    private final Map<Integer, World> images = new HashMap<>();

    SecondReading() {
        for (int t = 0; t < 6; t++) {
            w.people.add(new Person());
        }
    }

    private static boolean out(int v, int least, int most) {
        return v < least || v > most;
    }

    private static boolean noOne(int t) {
        return out(t, 0, 5);
    }

    int line(int minutes) {
        if (out(minutes, 1, 30)) {
            return OUTSIDE;
        }
        int was = w.length;
        w.length = minutes;
        w.minute = 0;
        return was;
    }

    int tunnel(int minute, boolean is) {
        if (out(minute, 0, 29)) {
            return OUTSIDE;
        }
        if (is) {
            w.tunnels.add(minute);
        } else {
            w.tunnels.remove(minute);
        }
        return w.tunnels.headSet(w.length).size();
    }

    int ride(int t, int from, int to) {
        if (noOne(t)) {
            return UNKNOWN;
        }
        if (from != -1 && (out(from, 0, 29) || out(to, 0, 29) || from > to)) {
            return OUTSIDE;
        }
        Person p = w.people.get(t);
        p.minutes.clear();
        for (int m = from; from != -1 && m <= to; m++) {
            p.minutes.add(m);
        }
        return p.minutes.headSet(w.length).size();
    }

    int seat(int t, int c) {
        if (noOne(t) || out(c, 0, 2)) {
            return UNKNOWN;
        }
        int was = w.people.get(t).compartment;
        w.people.get(t).compartment = c;
        return was;
    }

    int purse(int t, int v) {
        if (noOne(t)) {
            return UNKNOWN;
        }
        if (out(v, 0, 999)) {
            return OUTSIDE;
        }
        int was = w.people.get(t).purse;
        w.people.get(t).purse = v;
        return was;
    }

    int fine(int v) {
        if (out(v, 0, 99)) {
            return OUTSIDE;
        }
        int was = w.fine;
        w.fine = v;
        return was;
    }

    int say(int sign) {
        if (out(sign, 33, 126)) {
            return OUTSIDE;
        }
        if (pad.length() == 60) {
            return FULL;
        }
        pad += (char) sign;
        return pad.length();
    }

    int wipe() {
        int was = pad.length();
        pad = "";
        return was;
    }

    int fault() {
        Matcher acts = ACT.matcher(pad);
        int place = 0;
        while (acts.find(place) && acts.start() == place) {
            place = acts.end();
            acts = ACT.matcher(pad);
            if (place == pad.length()) {
                return NONE;
            }
        }
        String rest = pad.substring(place);
        if (rest.isEmpty()) {
            return pad.isEmpty() ? NONE : pad.length();
        }
        if (rest.matches("[A-F][0-9]?")) {
            return pad.length();
        }
        if (rest.matches("[A-F][0-9].*")) {
            return place + 2;
        }
        return rest.matches("[A-F].*") ? place + 1 : place;
    }

    /** The acts done, the reason why the next can not be (NONE: all are done). */
    private int[] play(World v) {
        Matcher acts = ACT.matcher(pad);
        int n = 0;
        while (acts.find()) {
            int why = NONE;
            if (acts.group(1) == null) {
                if (v.minute == v.length) {
                    why = 3;
                } else {
                    v.pass();
                }
            } else {
                int t = "ABCDEF".indexOf(acts.group(1));
                if (acts.group(2) != null) {
                    v.people.get(t).bid = Integer.parseInt(acts.group(2));
                } else if (!v.rides(t, v.minute)) {
                    why = 1;
                } else if (acts.group(3).equals("s") && !v.speaks(t)) {
                    why = 2;
                } else if (acts.group(3).equals("c")) {
                    v.cough(t);
                }
            }
            if (why != NONE) {
                return new int[] {n, why};
            }
            n++;
        }
        return new int[] {n, NONE};
    }

    int judge(int what) {
        if (out(what, 0, 1)) {
            return OUTSIDE;
        }
        if (fault() != NONE) {
            return NO;
        }
        int[] end = play(w.copy());
        return end[1] == NONE ? NONE : end[what];
    }

    int done() {
        World v = w.copy();
        if (fault() != NONE) {
            return NO;
        }
        int[] end = play(v);
        if (end[1] != NONE) {
            return NO;
        }
        w = v;
        pad = "";
        return end[0];
    }

    int behind(int what) {
        if (out(what, 0, 8)) {
            return OUTSIDE;
        }
        World v = w.copy();
        if (fault() != NONE || play(v)[1] != NONE) {
            return NO;
        }
        if (what < 6) {
            return v.people.get(what).purse;
        }
        return new int[] {v.guard, v.minute, v.fines}[what - 6];
    }

    int holds(int c) {
        return out(c, 0, 2) ? UNKNOWN : w.holder(c);
    }

    int hears(int t) {
        if (noOne(t)) {
            return UNKNOWN;
        }
        if (!w.speaks(t)) {
            return NONE;
        }
        int bits = 0;
        for (int u = 0; u < 6; u++) {
            bits += u != t && w.together(t, u, w.minute) ? (int) Math.pow(2, u) : 0;
        }
        return bits;
    }

    /** The world as it is in each minute from now on, and last at the end. */
    private static List<World> days(World from) {
        List<World> days = new ArrayList<>();
        World v = from.copy();
        days.add(v.copy());
        while (v.minute < v.length) {
            v.pass();
            World seen = v.copy();
            seen.paidFrom = v.paidFrom.clone();
            seen.paidBy = v.paidBy.clone();
            days.add(seen);
        }
        return days;
    }

    private static World last(List<World> days) {
        return days.get(days.size() - 1);
    }

    int forecast(int c, int d) {
        if (out(c, 0, 2)) {
            return UNKNOWN;
        }
        if (out(d, 0, 30)) {
            return OUTSIDE;
        }
        List<World> days = days(w);
        return d < days.size() ? days.get(d).holder(c) : NONE;
    }

    int rests(int t) {
        return noOne(t) ? UNKNOWN : last(days(w)).people.get(t).purse;
    }

    int talks(int t, int u) {
        if (noOne(t) || noOne(u) || t == u) {
            return UNKNOWN;
        }
        return (int) days(w).stream().filter(v -> v.speaks(t) && v.together(t, u, v.minute)).count();
    }

    int buy(int t, int what) {
        if (noOne(t)) {
            return UNKNOWN;
        }
        if (out(what, 0, 1)) {
            return OUTSIDE;
        }
        if (days(w).stream().noneMatch(v -> v.rides(t, v.minute))) {
            return NONE;
        }
        for (int bid = 1; bid < 100; bid++) {
            World v = w.copy();
            v.people.get(t).bid = bid;
            List<World> days = days(v);
            boolean kept = days.stream().allMatch(day -> !day.rides(t, day.minute)
                || day.tunnels.contains(day.minute) || day.holder(day.people.get(t).compartment) == t);
            if (kept) {
                return what == 0 ? bid : last(days).paidBy[t];
            }
        }
        return NONE;
    }

    private boolean meet(int code, int t, int u) {
        String digits = String.format("%06d", code);
        if (digits.charAt(t) != digits.charAt(u)) {
            return false;
        }
        for (int m = 0; m < w.length; m++) {
            if (w.rides(t, m) && w.rides(u, m)) {
                return true;
            }
        }
        return false;
    }

    private boolean seatable(int code, int apart, int together) {
        int pair = 0;
        for (int t = 0; t < 6; t++) {
            for (int u = t + 1; u < 6; u++, pair++) {
                boolean meet = (apart >> pair & 1) + (together >> pair & 1) > 0 && meet(code, t, u);
                if ((apart >> pair & 1) == 1 && meet || (together >> pair & 1) == 1 && !meet) {
                    return false;
                }
            }
        }
        return true;
    }

    int seats(int apart, int together, int what) {
        if (out(apart, 0, 32767) || out(together, 0, 32767) || out(what, 0, 1)) {
            return OUTSIDE;
        }
        List<Integer> codes = new ArrayList<>(List.of(0));
        for (int t = 0; t < 6; t++) {
            List<Integer> longer = new ArrayList<>();
            for (int code : codes) {
                for (int c = 0; c < 4; c++) {
                    if (w.ridesSomewhen(t) == c < 3) {
                        longer.add(10 * code + c);
                    }
                }
            }
            codes = longer;
        }
        codes.removeIf(code -> !seatable(code, apart, together));
        if (what == 0) {
            return codes.size();
        }
        return codes.stream().min(Integer::compare).orElse(NONE);
    }

    /** The minute in which each first knows it. */
    private Integer[] knowledge(int t, int m) {
        Integer[] when = new Integer[6];
        when[t] = m;
        for (int tunnel : w.tunnels.tailSet(m)) {
            for (int u = 0; u < 6; u++) {
                for (int v = 0; v < 6; v++) {
                    boolean knows = when[u] != null && (when[u] < tunnel || u == t);
                    if (knows && when[v] == null && w.together(u, v, tunnel)) {
                        when[v] = tunnel;
                    }
                }
            }
        }
        return when;
    }

    int word(int t, int m) {
        if (noOne(t)) {
            return UNKNOWN;
        }
        if (out(m, 0, 29)) {
            return OUTSIDE;
        }
        Integer[] when = knowledge(t, m);
        int bits = 0;
        for (int u = 5; u >= 0; u--) {
            bits = 2 * bits + (when[u] == null ? 0 : 1);
        }
        return bits;
    }

    int heard(int t, int m, int other) {
        if (noOne(t) || noOne(other)) {
            return UNKNOWN;
        }
        if (out(m, 0, 29)) {
            return OUTSIDE;
        }
        Integer when = knowledge(t, m)[other];
        return when == null ? NONE : when;
    }

    private static int firstOfMost(int[] row) {
        int at = 0;
        for (int i = 0; i < row.length; i++) {
            at = row[i] > row[at] ? i : at;
        }
        return at;
    }

    int richest(int what) {
        if (out(what, 0, 2)) {
            return OUTSIDE;
        }
        World end = last(days(w));
        int c = firstOfMost(end.paidFrom);
        int t = firstOfMost(end.paidBy);
        return new int[] {c, end.paidFrom[c], end.paidBy[t] == 0 ? NONE : t}[what];
    }

    int seen(int minute, int t) {
        if (noOne(t)) {
            return UNKNOWN;
        }
        if (out(minute, 0, 29)) {
            return OUTSIDE;
        }
        if (w.sights.size() == 8) {
            return FULL;
        }
        w.sights.add(new int[] {minute, t});
        return w.sights.size();
    }

    int forget() {
        int was = w.sights.size();
        w.sights.clear();
        return was;
    }

    private List<Integer> suspects() {
        List<Integer> left = new ArrayList<>();
        for (int u = 0; u < 6; u++) {
            int one = u;
            if (w.ridesSomewhen(u) && w.sights.stream().allMatch(s -> s[1] != one && w.together(s[1], one, s[0]))) {
                left.add(u);
            }
        }
        return left;
    }

    int hum() {
        return suspects().stream().mapToInt(u -> 1 << u).sum();
    }

    int watch(int what) {
        if (out(what, 0, 1)) {
            return OUTSIDE;
        }
        List<Integer> all = suspects();
        for (int most = 1; most <= all.size(); most++) {
            for (int place = 0; place < 10 * w.length; place++) {
                int m = place / 10;
                int c = place % 10;
                long in = all.stream().filter(u -> w.rides(u, m) && w.people.get(u).compartment == c).count();
                if (c < 3 && in <= most && all.size() - in <= most) {
                    return what == 0 ? place : most;
                }
            }
        }
        return NONE;
    }

    /** Who has it, what each of the two pays, if this was said last by each and this one is to move. */
    private int[] sell(int[] worth, int[] said, int mover) {
        int last = Math.max(said[0], said[1]);
        int[] left = {last == 0 ? NONE : 1 - mover, said[0], said[1]};
        if (last == 20) {
            return left;
        }
        int[] more = said.clone();
        more[mover] = last + 1;
        int[] on = sell(worth, more, 1 - mover);
        int byLeaving = -said[mover];
        int byGoingOn = (on[0] == mover ? worth[mover] : 0) - on[1 + mover];
        return byGoingOn > byLeaving ? on : left;
    }

    int auction(int first, int second, int what) {
        if (out(first, 0, 20) || out(second, 0, 20) || out(what, 0, 1)) {
            return OUTSIDE;
        }
        int[] end = sell(new int[] {first, second}, new int[2], 0);
        return what == 0 || end[0] == NONE ? end[0] : end[1 + end[0]];
    }

    long coughs(int c, int t, int part) {
        if (out(c, 0, 2)) {
            return LOST + UNKNOWN;
        }
        if (out(t, 0, 10) || out(part, 0, 1)) {
            return LOST + OUTSIDE;
        }
        BigInteger upper = BigInteger.ZERO;
        for (World day : days(w)) {
            int h = day.holder(c);
            for (int u = 0; u < 6 && h != NONE; u++) {
                if (u != h && day.together(h, u, day.minute)) {
                    upper = upper.add(BigInteger.valueOf((long) w.fine * t));
                }
            }
        }
        BigInteger common = upper.gcd(BigInteger.TEN);
        return (part == 0 ? upper : BigInteger.TEN).divide(common).longValue();
    }

    int year(int seed, int m, int what) {
        if (out(seed, 0, 9999) || out(m, 1, 99) || out(what, 0, 2)) {
            return OUTSIDE;
        }
        World v = w.copy();
        long x = seed;
        for (int n = 0; n < m; n++) {
            x = (75 * x + 74) % 65537;
            int t = (int) (x / 8) % 6;
            switch ((int) (x % 8)) {
                case 0, 1 -> {
                    if (v.minute < v.length) {
                        v.pass();
                    }
                }
                case 2, 3, 4 -> v.people.get(t).bid = (int) (x / 64) % 20;
                default -> {
                    if (v.rides(t, v.minute)) {
                        v.cough(t);
                    }
                }
            }
        }
        return new int[] {v.guard - w.guard, v.fines, v.minute}[what];
    }

    int image(int n) {
        if (out(n, 0, 1)) {
            return OUTSIDE;
        }
        images.put(n, w.copy());
        return 1;
    }

    int restore(int n) {
        if (out(n, 0, 1)) {
            return OUTSIDE;
        }
        if (!images.containsKey(n)) {
            return STATE;
        }
        w = images.get(n).copy();
        return 1;
    }

    int told(int what) {
        if (what >= 0 && what <= 6) {
            int bits = w.tunnels.stream().mapToInt(m -> 1 << m).sum();
            return new int[] {pad.length(), w.length, w.minute, w.guard, w.fine, w.sights.size(), bits}[what];
        }
        if (out(what, 10, 64) || what % 10 > 4) {
            return OUTSIDE;
        }
        Person p = w.people.get(what / 10 - 1);
        int from = p.minutes.isEmpty() ? NONE : p.minutes.first();
        int to = p.minutes.isEmpty() ? NONE : p.minutes.last();
        return new int[] {from, to, p.compartment, p.purse, p.bid}[what % 10];
    }
}
