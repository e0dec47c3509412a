/** Silence sold by the minute on a mountain railway; shared/DOC.md says what each call answers. */
public final class SilenceMinute {
    public static final int NONE = -6, UNKNOWN = -1, OUTSIDE = -2, STATE = -3, FULL = -4, NO = -5;
    public static final long LOST = -1000000000000000000L;

    private static final int TRAVELLERS = 6;
    private static final int COMPARTMENTS = 3;
    private static final int MINUTES = 30;
    private static final int TOP_PURSE = 999;
    private static final int TOP_BID = 99;
    private static final int TOP_FINE = 99;
    private static final int TOP_PAIRS = 32767;
    private static final int TOP_WORTH = 20;
    private static final int TOP_SEED = 9999;
    private static final int TOP_DRAWS = 99;
    private static final int NOT_RIDING = 1;
    private static final int MAY_NOT_SPEAK = 2;
    private static final int LINE_ENDED = 3;

    private final Train now;
    // What is only tried runs on this one train, so that no call has to make another.
    private final Train trial;
    private final Pad pad;
    private final Verdict verdict;
    private final Sights sights;
    private final Seating seating;
    private final Sale sale;
    private final Image firstImage;
    private final Image secondImage;

    public SilenceMinute() {
        now = new Train();
        trial = new Train();
        pad = new Pad();
        verdict = new Verdict();
        sights = new Sights();
        seating = new Seating();
        sale = new Sale();
        firstImage = new Image();
        secondImage = new Image();
    }

    // ---- 1 the line, travellers, rides

    public int line(int minutes) {
        if (!isWithin(minutes, 1, MINUTES)) {
            return OUTSIDE;
        }
        int before = now.length;
        now.length = minutes;
        now.minute = 0;
        return before;
    }

    public int tunnel(int minute, boolean is) {
        if (!isMinute(minute)) {
            return OUTSIDE;
        }
        int bit = 1 << minute;
        now.tunnels = is ? now.tunnels | bit : now.tunnels & ~bit;
        return now.tunnelsOfLine();
    }

    public int ride(int traveller, int from, int to) {
        if (!isTraveller(traveller)) {
            return UNKNOWN;
        }
        if (from == -1) {
            now.setRide(traveller, NONE, NONE);
            return 0;
        }
        if (!isMinute(from) || !isMinute(to) || from > to) {
            return OUTSIDE;
        }
        now.setRide(traveller, from, to);
        return now.minutesOf(traveller);
    }

    public int seat(int traveller, int compartment) {
        if (!isTraveller(traveller) || !isCompartment(compartment)) {
            return UNKNOWN;
        }
        int before = now.seats[traveller];
        now.seats[traveller] = compartment;
        return before;
    }

    public int purse(int traveller, int v) {
        if (!isTraveller(traveller)) {
            return UNKNOWN;
        }
        if (!isWithin(v, 0, TOP_PURSE)) {
            return OUTSIDE;
        }
        int before = now.purses[traveller];
        now.purses[traveller] = v;
        return before;
    }

    public int fine(int v) {
        if (!isWithin(v, 0, TOP_FINE)) {
            return OUTSIDE;
        }
        int before = now.fineAmount;
        now.fineAmount = v;
        return before;
    }

    public int say(int sign) {
        if (!isWithin(sign, Pad.LOWEST_SIGN, Pad.HIGHEST_SIGN)) {
            return OUTSIDE;
        }
        return pad.write(sign) ? pad.count : FULL;
    }

    public int wipe() {
        return pad.clear();
    }

    public int fault() {
        return pad.faultPlace();
    }

    // ---- 2 rides

    public int judge(int what) {
        if (!isWithin(what, 0, 1)) {
            return OUTSIDE;
        }
        if (pad.faultPlace() != NONE) {
            return NO;
        }
        if (padCanBe()) {
            return NONE;
        }
        return what == 0 ? verdict.acts : verdict.why;
    }

    public int done() {
        if (!padCanBe()) {
            return NO;
        }
        now.copyFrom(trial);
        pad.clear();
        return verdict.acts;
    }

    public int behind(int what) {
        if (!isWithin(what, 0, TRAVELLERS + 2)) {
            return OUTSIDE;
        }
        if (!padCanBe()) {
            return NO;
        }
        if (isTraveller(what)) {
            return trial.purses[what];
        }
        if (what == TRAVELLERS) {
            return trial.guard;
        }
        return what == TRAVELLERS + 1 ? trial.minute : trial.finesPaid;
    }

    public int holds(int compartment) {
        if (!isCompartment(compartment)) {
            return UNKNOWN;
        }
        return now.holderOf(compartment);
    }

    public int hears(int traveller) {
        if (!isTraveller(traveller)) {
            return UNKNOWN;
        }
        if (!now.maySpeak(traveller)) {
            return NONE;
        }
        return now.companionsOf(traveller, now.minute);
    }

    public int forecast(int compartment, int d) {
        if (!isCompartment(compartment)) {
            return UNKNOWN;
        }
        if (!isWithin(d, 0, MINUTES)) {
            return OUTSIDE;
        }
        trial.copyFrom(now);
        for (int passed = 0; passed < d; passed++) {
            trial.passMinute();
        }
        return trial.holderOf(compartment);
    }

    public int rests(int traveller) {
        if (!isTraveller(traveller)) {
            return UNKNOWN;
        }
        letAllMinutesPass();
        return trial.purses[traveller];
    }

    public int talks(int traveller, int other) {
        if (!isTraveller(traveller) || !isTraveller(other) || traveller == other) {
            return UNKNOWN;
        }
        int minutes = 0;
        trial.copyFrom(now);
        for (int m = now.minute; m < now.length; m++) {
            if (trial.maySpeak(traveller) && trial.ridesIn(other, trial.seats[traveller], m)) {
                minutes++;
            }
            trial.passMinute();
        }
        return minutes;
    }

    // ---- 3 bids, seats, words

    public int buy(int traveller, int what) {
        if (!isTraveller(traveller)) {
            return UNKNOWN;
        }
        if (!isWithin(what, 0, 1)) {
            return OUTSIDE;
        }
        if (!now.ridesFromNowOn(traveller)) {
            return NONE;
        }
        for (int bid = 1; bid <= TOP_BID; bid++) {
            if (keepsSilence(traveller, bid)) {
                return what == 0 ? bid : paidInTrial(traveller);
            }
        }
        return NONE;
    }

    public int seats(int apart, int together, int what) {
        if (!isWithin(apart, 0, TOP_PAIRS) || !isWithin(together, 0, TOP_PAIRS) || !isWithin(what, 0, 1)) {
            return OUTSIDE;
        }
        seating.countWays(now, apart, together);
        return what == 0 ? seating.ways : seating.first;
    }

    public int word(int traveller, int m) {
        if (!isTraveller(traveller)) {
            return UNKNOWN;
        }
        if (!isMinute(m)) {
            return OUTSIDE;
        }
        int known = 1 << traveller;
        for (int minute = m; minute < now.length; minute++) {
            known = now.knownAfter(minute, known);
        }
        return known;
    }

    public int heard(int traveller, int m, int other) {
        if (!isTraveller(traveller) || !isTraveller(other)) {
            return UNKNOWN;
        }
        if (!isMinute(m)) {
            return OUTSIDE;
        }
        if (traveller == other) {
            return m;
        }
        int known = 1 << traveller;
        for (int minute = m; minute < now.length; minute++) {
            known = now.knownAfter(minute, known);
            if ((known & (1 << other)) != 0) {
                return minute;
            }
        }
        return NONE;
    }

    public int richest(int what) {
        if (!isWithin(what, 0, 2)) {
            return OUTSIDE;
        }
        letAllMinutesPass();
        if (what == 2) {
            return topPayer();
        }
        int top = 0;
        for (int c = 1; c < COMPARTMENTS; c++) {
            if (paidByCompartment(c) > paidByCompartment(top)) {
                top = c;
            }
        }
        return what == 0 ? top : paidByCompartment(top);
    }

    // ---- 4 hums, auctions, coughs

    public int seen(int minute, int traveller) {
        if (!isTraveller(traveller)) {
            return UNKNOWN;
        }
        if (!isMinute(minute)) {
            return OUTSIDE;
        }
        return sights.add(minute, traveller) ? sights.count : FULL;
    }

    public int forget() {
        return sights.clear();
    }

    public int hum() {
        return sights.suspects(now);
    }

    public int watch(int what) {
        if (!isWithin(what, 0, 1)) {
            return OUTSIDE;
        }
        int suspects = sights.suspects(now);
        if (suspects == 0) {
            return NONE;
        }
        int best = 0;
        int fewest = TRAVELLERS + 1;
        for (int minute = 0; minute < now.length; minute++) {
            for (int c = 0; c < COMPARTMENTS; c++) {
                int left = leftAtMost(suspects, now.ridersOf(c, minute));
                if (left < fewest) {
                    fewest = left;
                    best = 10 * minute + c;
                }
            }
        }
        return what == 0 ? best : fewest;
    }

    public int auction(int first, int second, int what) {
        if (!isWithin(first, 0, TOP_WORTH) || !isWithin(second, 0, TOP_WORTH) || !isWithin(what, 0, 1)) {
            return OUTSIDE;
        }
        sale.settle(first, second);
        return what == 0 ? sale.winner : sale.price;
    }

    public long coughs(int compartment, int t, int part) {
        if (!isCompartment(compartment)) {
            return LOST + UNKNOWN;
        }
        if (!isWithin(t, 0, 10) || !isWithin(part, 0, 1)) {
            return LOST + OUTSIDE;
        }
        return tenthsInLowestTerms(now.fineAmount * t * chancesToCough(compartment), part);
    }

    public int year(int seed, int m, int what) {
        if (!isWithin(seed, 0, TOP_SEED) || !isWithin(m, 1, TOP_DRAWS) || !isWithin(what, 0, 2)) {
            return OUTSIDE;
        }
        trial.copyFrom(now);
        int x = seed;
        for (int act = 0; act < m; act++) {
            x = (75 * x + 74) % 65537;
            trial.doDrawn(x);
        }
        if (what == 0) {
            return trial.guard - now.guard;
        }
        return what == 1 ? trial.finesPaid : trial.minute;
    }

    public int image(int n) {
        if (!isWithin(n, 0, 1)) {
            return OUTSIDE;
        }
        imageAt(n).keep(now, sights);
        return 1;
    }

    public int restore(int n) {
        if (!isWithin(n, 0, 1)) {
            return OUTSIDE;
        }
        return imageAt(n).bringBack(now, sights) ? 1 : STATE;
    }

    public int told(int what) {
        switch (what) {
            case 0: return pad.count;
            case 1: return now.length;
            case 2: return now.minute;
            case 3: return now.guard;
            case 4: return now.fineAmount;
            case 5: return sights.count;
            case 6: return now.tunnels;
            default: return toldOf(what / 10 - 1, what % 10);
        }
    }

    // ---- what the calls share

    private static boolean isWithin(int v, int least, int most) {
        return v >= least && v <= most;
    }

    private static boolean isTraveller(int v) {
        return v >= 0 && v < TRAVELLERS;
    }

    private static boolean isCompartment(int v) {
        return v >= 0 && v < COMPARTMENTS;
    }

    private static boolean isMinute(int v) {
        return v >= 0 && v < MINUTES;
    }

    /** Leaves the trial as it would be behind the pad's rides, if they all can be. */
    private boolean padCanBe() {
        if (pad.faultPlace() != NONE) {
            return false;
        }
        trial.copyFrom(now);
        verdict.tryRides(pad, trial);
        return verdict.why == NONE;
    }

    private void letAllMinutesPass() {
        trial.copyFrom(now);
        for (int m = now.minute; m < now.length; m++) {
            trial.passMinute();
        }
    }

    private boolean keepsSilence(int traveller, int bid) {
        trial.copyFrom(now);
        trial.setBid(traveller, bid);
        for (int m = now.minute; m < now.length; m++) {
            boolean mustHold = trial.ridesAt(traveller, m) && !trial.isTunnel(m);
            if (mustHold && !trial.isHolder(traveller)) {
                return false;
            }
            trial.passMinute();
        }
        return true;
    }

    private int paidInTrial(int traveller) {
        return isTraveller(traveller) ? now.purses[traveller] - trial.purses[traveller] : 0;
    }

    /** Nobody changes seats while minutes pass, so a compartment pays what those seated in it do. */
    private int paidByCompartment(int compartment) {
        int paid = 0;
        for (int t = 0; t < TRAVELLERS; t++) {
            if (now.seats[t] == compartment) {
                paid += paidInTrial(t);
            }
        }
        return paid;
    }

    private int topPayer() {
        int top = NONE;
        int most = 0;
        for (int t = 0; t < TRAVELLERS; t++) {
            if (paidInTrial(t) > most) {
                most = paidInTrial(t);
                top = t;
            }
        }
        return top;
    }

    private static int leftAtMost(int suspects, int riders) {
        int riding = Integer.bitCount(suspects & riders);
        int notRiding = Integer.bitCount(suspects & ~riders);
        return Math.max(riding, notRiding);
    }

    private int chancesToCough(int compartment) {
        int chances = 0;
        trial.copyFrom(now);
        for (int m = now.minute; m < now.length; m++) {
            if (trial.holderOf(compartment) != NONE) {
                chances += Integer.bitCount(trial.ridersOf(compartment, m)) - 1;
            }
            trial.passMinute();
        }
        return chances;
    }

    /** Nothing but 2 and 5 divides ten, so these alone can be common to both numbers. */
    private static int tenthsInLowestTerms(int tenths, int part) {
        int upper = tenths;
        int lower = 10;
        if (upper % 2 == 0) {
            upper /= 2;
            lower /= 2;
        }
        if (upper % 5 == 0) {
            upper /= 5;
            lower /= 5;
        }
        return part == 0 ? upper : lower;
    }

    private Image imageAt(int n) {
        return n == 0 ? firstImage : secondImage;
    }

    private int toldOf(int traveller, int what) {
        if (!isTraveller(traveller)) {
            return OUTSIDE;
        }
        switch (what) {
            case 0: return now.from[traveller];
            case 1: return now.to[traveller];
            case 2: return now.seats[traveller];
            case 3: return now.purses[traveller];
            case 4: return now.bids[traveller];
            default: return OUTSIDE;
        }
    }

    /** The line, those who ride it, and what a minute or a cough does to their purses. */
    private static final class Train {
        int length;
        int minute;
        int guard;
        int fineAmount;
        // Fines since this train was copied from another one.
        int finesPaid;
        int tunnels;
        // Both are NONE for one who does not ride.
        final int[] from;
        final int[] to;
        final int[] seats;
        final int[] purses;
        final int[] bids;

        Train() {
            length = 12;
            fineAmount = 2;
            from = new int[TRAVELLERS];
            to = new int[TRAVELLERS];
            seats = new int[TRAVELLERS];
            purses = new int[TRAVELLERS];
            bids = new int[TRAVELLERS];
            for (int t = 0; t < TRAVELLERS; t++) {
                from[t] = NONE;
                to[t] = NONE;
                purses[t] = 50;
            }
        }

        void copyFrom(Train other) {
            length = other.length;
            minute = other.minute;
            guard = other.guard;
            fineAmount = other.fineAmount;
            finesPaid = 0;
            tunnels = other.tunnels;
            for (int t = 0; t < TRAVELLERS; t++) {
                from[t] = other.from[t];
                to[t] = other.to[t];
                seats[t] = other.seats[t];
                purses[t] = other.purses[t];
                bids[t] = other.bids[t];
            }
        }

        boolean isTunnel(int m) {
            return m >= 0 && m < MINUTES && (tunnels & (1 << m)) != 0;
        }

        int tunnelsOfLine() {
            int many = 0;
            for (int m = 0; m < length; m++) {
                if (isTunnel(m)) {
                    many++;
                }
            }
            return many;
        }

        void setRide(int t, int first, int last) {
            if (isTraveller(t)) {
                from[t] = first;
                to[t] = last;
            }
        }

        void setBid(int t, int bid) {
            if (isTraveller(t)) {
                bids[t] = bid;
            }
        }

        boolean ridesAt(int t, int m) {
            if (t < 0 || t >= TRAVELLERS || m < 0 || m >= length) {
                return false;
            }
            return from[t] >= 0 && from[t] <= m && m <= to[t];
        }

        boolean ridesIn(int t, int compartment, int m) {
            return ridesAt(t, m) && seats[t] == compartment;
        }

        boolean ridesNow(int t) {
            return ridesAt(t, minute);
        }

        boolean ridesFromNowOn(int t) {
            for (int m = minute; m < length; m++) {
                if (ridesAt(t, m)) {
                    return true;
                }
            }
            return false;
        }

        int minutesOf(int t) {
            int many = 0;
            for (int m = 0; m < length; m++) {
                if (ridesAt(t, m)) {
                    many++;
                }
            }
            return many;
        }

        int ridersOf(int compartment, int m) {
            int riders = 0;
            for (int t = 0; t < TRAVELLERS; t++) {
                if (ridesIn(t, compartment, m)) {
                    riders |= 1 << t;
                }
            }
            return riders;
        }

        /** Who else rides with one in a minute, as bits; nobody, if he does not ride himself. */
        int companionsOf(int t, int m) {
            if (!isTraveller(t) || !ridesAt(t, m)) {
                return 0;
            }
            return ridersOf(seats[t], m) & ~(1 << t);
        }

        int ridersOfLine() {
            int riders = 0;
            for (int t = 0; t < TRAVELLERS; t++) {
                if (minutesOf(t) > 0) {
                    riders |= 1 << t;
                }
            }
            return riders;
        }

        boolean rideTogether(int one, int other) {
            for (int m = 0; m < length; m++) {
                if (ridesAt(one, m) && ridesAt(other, m)) {
                    return true;
                }
            }
            return false;
        }

        int holderOf(int compartment) {
            int holder = NONE;
            int most = 0;
            if (isTunnel(minute)) {
                return NONE;
            }
            for (int t = 0; t < TRAVELLERS; t++) {
                boolean canPay = bids[t] > most && bids[t] <= purses[t];
                if (canPay && seats[t] == compartment && ridesAt(t, minute)) {
                    most = bids[t];
                    holder = t;
                }
            }
            return holder;
        }

        boolean isHolder(int t) {
            return isTraveller(t) && holderOf(seats[t]) == t;
        }

        boolean maySpeak(int t) {
            if (!isTraveller(t) || !ridesNow(t)) {
                return false;
            }
            int holder = holderOf(seats[t]);
            return holder == NONE || holder == t;
        }

        /** Answers whether it could pass: at the end of the line it can not. */
        boolean passMinute() {
            if (minute >= length) {
                return false;
            }
            for (int c = 0; c < COMPARTMENTS; c++) {
                int holder = holderOf(c);
                if (isTraveller(holder)) {
                    payGuard(holder, bids[holder]);
                }
            }
            minute++;
            return true;
        }

        void takeCough(int t) {
            if (!isTraveller(t) || !ridesNow(t)) {
                return;
            }
            int holder = holderOf(seats[t]);
            if (isTraveller(holder) && holder != t) {
                int paid = Math.min(fineAmount, purses[holder]);
                payGuard(holder, paid);
                finesPaid += paid;
            }
        }

        private void payGuard(int t, int v) {
            if (isTraveller(t)) {
                purses[t] -= v;
                guard += v;
            }
        }

        /** An act of a year, by what was drawn; what can not be is left out. */
        void doDrawn(int x) {
            int kind = x % 8;
            int t = x / 8 % TRAVELLERS;
            if (kind <= 1) {
                passMinute();
            } else if (kind <= 4) {
                setBid(t, x / 64 % 20);
            } else {
                takeCough(t);
            }
        }

        /** Who knows it behind minute m, as bits, if those did ahead of it. */
        int knownAfter(int m, int known) {
            if (!isTunnel(m)) {
                return known;
            }
            int after = known;
            for (int c = 0; c < COMPARTMENTS; c++) {
                int riders = ridersOf(c, m);
                if ((riders & known) != 0) {
                    after |= riders;
                }
            }
            return after;
        }
    }

    /** The signs of rides that are told, and where they do not make acts. */
    private static final class Pad {
        static final int SIZE = 60;
        static final int LOWEST_SIGN = 33;
        static final int HIGHEST_SIGN = 126;
        private static final int BETWEEN_ACTS = 0;
        private static final int AFTER_LETTER = 1;
        private static final int AFTER_DIGIT = 2;

        final int[] signs;
        int count;

        Pad() {
            signs = new int[SIZE];
        }

        boolean write(int sign) {
            if (count < 0 || count >= SIZE) {
                return false;
            }
            signs[count] = sign;
            count++;
            return true;
        }

        int clear() {
            int before = count;
            count = 0;
            return before;
        }

        int signAt(int place) {
            return place >= 0 && place < count && place < SIZE ? signs[place] : 0;
        }

        boolean isDigitAt(int place) {
            return isWithin(signAt(place), '0', '9');
        }

        int faultPlace() {
            int where = BETWEEN_ACTS;
            for (int place = 0; place < count; place++) {
                where = follow(where, place);
                if (where == NONE) {
                    return place;
                }
            }
            return where == BETWEEN_ACTS ? NONE : count;
        }

        /** Where in an act one is behind the sign at a place; NONE: it can not stand there. */
        private int follow(int where, int place) {
            int sign = signAt(place);
            if (where == BETWEEN_ACTS) {
                if (isWithin(sign, 'A', 'F')) {
                    return AFTER_LETTER;
                }
                return sign == '.' ? BETWEEN_ACTS : NONE;
            }
            if (isDigitAt(place)) {
                return where == AFTER_LETTER ? AFTER_DIGIT : BETWEEN_ACTS;
            }
            boolean isDeed = sign == 'c' || sign == 's' || sign == 'h';
            return where == AFTER_LETTER && isDeed ? BETWEEN_ACTS : NONE;
        }

        /** How many signs the act has that begins at a place; the pad has no fault. */
        int actLength(int place) {
            if (signAt(place) == '.') {
                return 1;
            }
            return isDigitAt(place + 1) ? 3 : 2;
        }
    }

    /** How far the acts of a pad can be, and why the next one can not. */
    private static final class Verdict {
        int acts;
        int why;

        void tryRides(Pad pad, Train train) {
            int place = 0;
            acts = 0;
            why = NONE;
            for (int act = 0; act < Pad.SIZE && place < pad.count; act++) {
                why = tryAct(pad, place, train);
                if (why != NONE) {
                    return;
                }
                acts++;
                place += pad.actLength(place);
            }
        }

        private static int tryAct(Pad pad, int place, Train train) {
            int sign = pad.signAt(place);
            if (sign == '.') {
                return train.passMinute() ? NONE : LINE_ENDED;
            }
            int t = sign - 'A';
            int deed = pad.signAt(place + 1);
            if (pad.isDigitAt(place + 1)) {
                train.setBid(t, 10 * (deed - '0') + pad.signAt(place + 2) - '0');
                return NONE;
            }
            if (!train.ridesNow(t)) {
                return NOT_RIDING;
            }
            if (deed == 's' && !train.maySpeak(t)) {
                return MAY_NOT_SPEAK;
            }
            if (deed == 'c') {
                train.takeCough(t);
            }
            return NONE;
        }
    }

    /** The ways to seat all who ride so that some twos meet and others do not. */
    private static final class Seating {
        int ways;
        int first;
        private int riders;
        private final int[] digits;

        Seating() {
            digits = new int[TRAVELLERS];
        }

        void countWays(Train train, int apart, int together) {
            ways = 0;
            first = NONE;
            riders = train.ridersOfLine();
            int meetable = meetableTwos(train);
            if ((together & ~meetable) != 0) {
                return;
            }
            int never = apart & meetable;
            int codes = waysInAll();
            for (int code = 0; code < codes; code++) {
                spread(code);
                int same = twosInOneCompartment();
                if ((same & never) == 0 && (together & ~same) == 0) {
                    first = ways == 0 ? digitsAsNumber() : first;
                    ways++;
                }
            }
        }

        private boolean isRider(int t) {
            return (riders & (1 << t)) != 0;
        }

        private int waysInAll() {
            int all = 1;
            for (int t = 0; t < TRAVELLERS; t++) {
                all *= isRider(t) ? COMPARTMENTS : 1;
            }
            return all;
        }

        /** The last rider's digit changes first, so that the numbers rise as the codes do. */
        private void spread(int code) {
            int rest = code;
            for (int t = TRAVELLERS - 1; t >= 0; t--) {
                if (isRider(t)) {
                    digits[t] = rest % COMPARTMENTS;
                    rest /= COMPARTMENTS;
                } else {
                    digits[t] = COMPARTMENTS;
                }
            }
        }

        private int digitsAsNumber() {
            int number = 0;
            for (int t = 0; t < TRAVELLERS; t++) {
                number = 10 * number + digits[t];
            }
            return number;
        }

        private int twosInOneCompartment() {
            int twos = 0;
            int bit = 1;
            for (int one = 0; one < TRAVELLERS; one++) {
                for (int other = one + 1; other < TRAVELLERS; other++) {
                    twos |= digits[one] == digits[other] ? bit : 0;
                    bit <<= 1;
                }
            }
            return twos;
        }

        private static int meetableTwos(Train train) {
            int twos = 0;
            int bit = 1;
            for (int one = 0; one < TRAVELLERS; one++) {
                for (int other = one + 1; other < TRAVELLERS; other++) {
                    twos |= train.rideTogether(one, other) ? bit : 0;
                    bit <<= 1;
                }
            }
            return twos;
        }
    }

    /** Who was fined for a hum, and when. */
    private static final class Sights {
        static final int SIZE = 8;

        final int[] minutes;
        final int[] travellers;
        int count;

        Sights() {
            minutes = new int[SIZE];
            travellers = new int[SIZE];
        }

        void copyFrom(Sights other) {
            count = other.count;
            for (int i = 0; i < SIZE; i++) {
                minutes[i] = other.minutes[i];
                travellers[i] = other.travellers[i];
            }
        }

        boolean add(int minute, int traveller) {
            if (count < 0 || count >= SIZE) {
                return false;
            }
            minutes[count] = minute;
            travellers[count] = traveller;
            count++;
            return true;
        }

        int clear() {
            int before = count;
            count = 0;
            return before;
        }

        int suspects(Train train) {
            int left = train.ridersOfLine();
            for (int i = 0; i < count && i < SIZE; i++) {
                left &= train.companionsOf(travellers[i], minutes[i]);
            }
            return left;
        }
    }

    /** Two who bid against each other by turns, seen from the last word back to the first. */
    private static final class Sale {
        private static final int TOP_WORD = 20;

        int winner;
        int price;
        private int loss;

        void settle(int first, int second) {
            leaveOff(TOP_WORD);
            for (int said = TOP_WORD - 1; said >= 0; said--) {
                int mover = moverBehind(said);
                int gain = valueFor(mover, mover == 0 ? first : second);
                if (gain <= -wordBefore(said)) {
                    leaveOff(said);
                }
            }
        }

        private static int moverBehind(int said) {
            return said % 2;
        }

        /** What the one to move said last: one less than the other, or nothing yet. */
        private static int wordBefore(int said) {
            return Math.max(said - 1, 0);
        }

        private int valueFor(int mover, int worth) {
            return winner == mover ? worth - price : -loss;
        }

        private void leaveOff(int said) {
            winner = said == 0 ? NONE : 1 - moverBehind(said);
            price = said == 0 ? NONE : said;
            loss = wordBefore(said);
        }
    }

    /** All but the pad, as it was when it was kept. */
    private static final class Image {
        private boolean kept;
        private final Train train;
        private final Sights sights;

        Image() {
            train = new Train();
            sights = new Sights();
        }

        void keep(Train fromTrain, Sights fromSights) {
            train.copyFrom(fromTrain);
            sights.copyFrom(fromSights);
            kept = true;
        }

        boolean bringBack(Train toTrain, Sights toSights) {
            if (!kept) {
                return false;
            }
            toTrain.copyFrom(train);
            toSights.copyFrom(sights);
            return true;
        }
    }
}
