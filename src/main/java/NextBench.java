import java.util.Arrays;

/** A room of seats, who sits where in it, how full it can be, and what was seen of it. */
public final class NextBench {
    public static final int UNKNOWN = -1, OUTSIDE = -2, STATE = -3, FULL = -4, NO = -5, NONE = -6;
    public static final long LOST = -1000000000000000000L;

    private static final int FINE = 0;

    private static final int FIRST_SIGN = 33, LAST_SIGN = 126, MOST_SIGNS = 30;
    private static final char SEAT_SIGN = 'o', GAP_SIGN = '-', ARM_SIGN = '|', RING_SIGN = '@';

    private static final int MOST_SEATS = 12, MOST_SETS = 1 << MOST_SEATS;
    private static final int MOST_WORTH = 9, MOST_BEAR = 4, FIRST_BEAR = 2;
    private static final int MOST_COMERS = 12, MOST_SEEN_ROWS = 8, IMAGES = 2;
    private static final int UNREACHED = 99, CUT = 0;

    private static final int FAR_HABIT = 0, SUN_HABIT = 1, LEAST_HABIT = 2, GREATEST_HABIT = 3;
    private static final int NEAR_HABIT = 4, END_HABIT = 5, HABITS = 6, ANY = 6;

    private static final int LONGEST_ROW = 200, MOST_ASKED = 100, MOST_ARMS = 3, MOST_MINUTES = 3;
    private static final int FIRST_WORTH_TOLD = 10;

    /** 12!: whatever ANY does is an event of one random order of at most 12 SEATS, so this is always a common divisor. */
    private static final int ALL_ORDERS = 479001600;

    /** Twice the least number that 1 to 12 all divide: a minute's odds are whole numbers of its parts. */
    private static final long MINUTE_PARTS = 55440L;

    private final Pad pad;
    private final Scene scene;
    private final Scene[] images;
    private final Bench bench;
    private final Bench trial;
    private final Sitters sitters;
    private final Sitters trialSitters;
    private final Sets sets;
    private final Census census;
    private final Match match;
    private final Couples couples;
    private final Passing passing;
    private final LongRows longRows;

    public NextBench() {
        pad = new Pad();
        scene = new Scene();
        images = new Scene[IMAGES];
        bench = new Bench(scene);
        trial = new Bench(scene);
        sitters = new Sitters(bench);
        trialSitters = new Sitters(trial);
        sets = new Sets();
        census = new Census();
        match = new Match();
        couples = new Couples();
        passing = new Passing(sitters);
        longRows = new LongRows();
        bench.measure(0);
    }

    // ---- 1 rooms

    public int say(int sign) {
        if (!isWithin(sign, FIRST_SIGN, LAST_SIGN)) {
            return OUTSIDE;
        }
        return pad.add(sign) ? pad.count : FULL;
    }

    public int wipe() {
        int had = pad.count;
        pad.count = 0;
        return had;
    }

    public int fault() {
        return pad.firstFault();
    }

    public int room() {
        if (pad.firstFault() != NONE) {
            return NO;
        }
        scene.seats = pad.writeSteps(scene.steps);
        pad.count = 0;
        Arrays.fill(scene.worths, 0);
        scene.seenRows = 0;
        renew();
        return scene.seats;
    }

    public int worth(int seat, int v) {
        if (!isSeat(seat)) {
            return UNKNOWN;
        }
        if (!isWithin(v, 0, MOST_WORTH)) {
            return OUTSIDE;
        }
        int was = scene.worths[seat];
        scene.worths[seat] = v;
        return was;
    }

    public int bear(int v) {
        if (!isWithin(v, 1, MOST_BEAR)) {
            return OUTSIDE;
        }
        int was = scene.bear;
        if (was != v) {
            scene.bear = v;
            scene.seenRows = 0;
            renew();
        }
        return was;
    }

    public int far(int seat, int other) {
        if (!isSeat(seat) || !isSeat(other)) {
            return UNKNOWN;
        }
        return bench.farness(seat, other);
    }

    // ---- 2 who sits where

    public int may(int set) {
        int refusal = seatAll(set);
        return refusal != FINE ? refusal : sitters.openSeats();
    }

    public int takes(int set, int habit) {
        if (!isHabit(habit)) {
            return OUTSIDE;
        }
        int refusal = seatAll(set);
        return refusal != FINE ? refusal : sitters.choice(habit);
    }

    public int fill(int set, int habit) {
        if (!isHabit(habit)) {
            return OUTSIDE;
        }
        int refusal = seatAll(set);
        if (refusal != FINE) {
            return refusal;
        }
        sitters.fillUp(habit);
        return sitters.set;
    }

    // ---- 3 how full

    public int whole(int what) {
        if (!isWithin(what, 0, 3)) {
            return OUTSIDE;
        }
        census.take(bench, sets);
        int set = what == 0 || what == 2 ? census.least : census.most;
        return what < 2 ? set : Integer.bitCount(set);
    }

    public int ways(int n) {
        if (!isWithin(n, 0, MOST_SEATS)) {
            return OUTSIDE;
        }
        census.take(bench, sets);
        return census.wholeSets[n];
    }

    public long mean(int part) {
        if (!isWithin(part, 0, 1)) {
            return LOST + OUTSIDE;
        }
        census.take(bench, sets);
        return lowestPart(census.sumOfSitters(), ALL_ORDERS, part);
    }

    public long odds(int n, int part) {
        if (!isWithin(n, 0, MOST_SEATS) || !isWithin(part, 0, 1)) {
            return LOST + OUTSIDE;
        }
        census.take(bench, sets);
        return lowestPart(census.orders[n], ALL_ORDERS, part);
    }

    public int first(int habit, int what) {
        if (!isHabit(habit) || !isWithin(what, 0, 3)) {
            return OUTSIDE;
        }
        boolean wantsMost = what == 0 || what == 2;
        int bestSeat = 0;
        int best = comeInAfter(0, habit);
        for (int seat = 1; seat < scene.seats; seat++) {
            int comeIn = comeInAfter(seat, habit);
            if (wantsMost ? comeIn > best : comeIn < best) {
                best = comeIn;
                bestSeat = seat;
            }
        }
        return what < 2 ? bestSeat : best;
    }

    public int game(int set, int turn, int what) {
        if (!isWithin(turn, 0, 1) || !isWithin(what, 0, 1)) {
            return OUTSIDE;
        }
        int refusal = seatAll(set);
        if (refusal != FINE) {
            return refusal;
        }
        match.play(bench, sets);
        return what == 0 ? match.result(set, turn) : match.bestSeat(set, sitters.openSeats(), turn);
    }

    public int pairs(int what) {
        if (!isWithin(what, 0, 1)) {
            return OUTSIDE;
        }
        couples.list(bench);
        return what == 0 ? couples.sitInTurn(sitters) : couples.mostAtOnce(sets);
    }

    public int late(int habit, int v) {
        if (!isHabit(habit) || !isWithin(v, 1, scene.bear)) {
            return OUTSIDE;
        }
        sitters.leave();
        for (int borne = scene.bear; borne >= v; borne--) {
            sitters.bear = borne;
            sitters.fillUp(habit);
        }
        return sitters.number();
    }

    // ---- 4 rows, arms, minutes

    public int rows(int n, int seat) {
        if (!isWithin(n, 1, LONGEST_ROW)) {
            return OUTSIDE;
        }
        if (!isWithin(seat, 0, n - 1)) {
            return UNKNOWN;
        }
        return longRows.comeIn(n, seat);
    }

    public int longer(int k) {
        if (!isWithin(k, 1, MOST_ASKED)) {
            return OUTSIDE;
        }
        for (int n = 1; n <= LONGEST_ROW; n++) {
            if (longRows.comeIn(n, 0) >= k) {
                return n;
            }
        }
        return NONE;
    }

    public int arms(int habit, int k, int what) {
        if (!isHabit(habit) || !isWithin(k, 0, MOST_ARMS) || !isWithin(what, 0, 1)) {
            return OUTSIDE;
        }
        int places = bestPlaces(habit, k);
        return what == 0 ? places : comeInWithArms(places, habit);
    }

    public int rests(int k) {
        if (!isWithin(k, 0, MOST_ARMS)) {
            return OUTSIDE;
        }
        return bestPlaces(ANY, k);
    }

    public long minutes(int set, int habit, int minutes, int n, int part) {
        if (!isWithin(n, 0, MOST_SEATS)) {
            return LOST + OUTSIDE;
        }
        int refusal = letPass(set, habit, minutes, part);
        return refusal != FINE ? LOST + refusal : lowestPart(passing.odds[n], passing.parts, part);
    }

    public long away(int set, int habit, int minutes, int part) {
        int refusal = letPass(set, habit, minutes, part);
        return refusal != FINE ? LOST + refusal : lowestPart(passing.turnedAway, passing.parts, part);
    }

    // ---- 5 comers, what was seen

    public int come(int habit) {
        if (!isHabit(habit)) {
            return OUTSIDE;
        }
        if (scene.comerCount >= MOST_COMERS) {
            return FULL;
        }
        scene.comers[scene.comerCount] = habit;
        scene.comerCount++;
        return scene.comerCount - 1;
    }

    public int forget() {
        int had = scene.comerCount;
        scene.comerCount = 0;
        return had;
    }

    public int sits(int comer) {
        if (!isWithin(comer, 0, scene.comerCount - 1)) {
            return UNKNOWN;
        }
        sitters.leave();
        int seat = NONE;
        for (int i = 0; i <= comer; i++) {
            seat = sitters.choice(scene.comers[i]);
            if (seat != NONE) {
                sitters.sit(seat);
            }
        }
        return seat;
    }

    public int begin() {
        if (scene.seenRows >= MOST_SEEN_ROWS) {
            return FULL;
        }
        scene.seenLengths[scene.seenRows] = 0;
        scene.seenRows++;
        return scene.seenRows - 1;
    }

    public int see(int seat) {
        if (!isSeat(seat)) {
            return UNKNOWN;
        }
        if (scene.seenRows == 0) {
            return STATE;
        }
        int row = scene.seenRows - 1;
        seatSeenRow(row);
        if (!sitters.isOpen(seat)) {
            return NO;
        }
        return scene.noteSeen(row, seat) ? scene.seenLengths[row] : FULL;
    }

    public int fits() {
        int fitting = 0;
        for (int habit = 0; habit < HABITS; habit++) {
            if (firstMisfit(habit) == NONE) {
                fitting |= 1 << habit;
            }
        }
        return fitting;
    }

    public int judge(int habit) {
        return isHabit(habit) ? firstMisfit(habit) : OUTSIDE;
    }

    public int image(int n) {
        if (!isWithin(n, 0, IMAGES - 1)) {
            return OUTSIDE;
        }
        if (images[n] == null) {
            images[n] = new Scene();
        }
        images[n].copyFrom(scene);
        return 1;
    }

    public int restore(int n) {
        if (!isWithin(n, 0, IMAGES - 1)) {
            return OUTSIDE;
        }
        if (images[n] == null) {
            return STATE;
        }
        scene.copyFrom(images[n]);
        renew();
        return 1;
    }

    public int told(int what) {
        switch (what) {
            case 0:
                return scene.seats;
            case 1:
                return scene.bear;
            case 2:
                return pad.count;
            case 3:
                return scene.comerCount;
            case 4:
                return scene.seenRows;
            default:
                return worthTold(what);
        }
    }

    // ---- what the calls share

    private static boolean isWithin(int number, int least, int most) {
        return number >= least && number <= most;
    }

    private static boolean isHabit(int habit) {
        return isWithin(habit, 0, HABITS - 1);
    }

    private boolean isSeat(int seat) {
        return isWithin(seat, 0, scene.seats - 1);
    }

    /** What hangs on ROOM and BEAR is reckoned anew when it is asked for next. */
    private void renew() {
        bench.measure(0);
        census.known = false;
        match.known = false;
    }

    private int seatAll(int set) {
        if ((set & ~scene.allSeats()) != 0) {
            return OUTSIDE;
        }
        return sitters.seatSet(set) ? FINE : STATE;
    }

    private int comeInAfter(int seat, int habit) {
        sitters.leave();
        sitters.sit(seat);
        sitters.fillUp(habit);
        return sitters.number();
    }

    /** PLACES that have an ARM are passed over: the same without them has fewer. */
    private int bestPlaces(int habit, int k) {
        int best = 0;
        long bestWorth = worthOfArms(0, habit);
        int cut = scene.cutPlaces();
        int end = 1 << (scene.seats - 1);
        for (int places = 1; places < end; places++) {
            int count = Integer.bitCount(places);
            if (count > k || (places & cut) != 0) {
                continue;
            }
            long worth = worthOfArms(places, habit);
            if (worth > bestWorth || (worth == bestWorth && count < Integer.bitCount(best))) {
                best = places;
                bestWorth = worth;
            }
        }
        return best;
    }

    private long worthOfArms(int places, int habit) {
        if (habit != ANY) {
            return comeInWithArms(places, habit);
        }
        trial.measure(places);
        return sets.sumOfSitters(trial);
    }

    private int comeInWithArms(int places, int habit) {
        trial.measure(places);
        trialSitters.leave();
        trialSitters.fillUp(habit);
        return trialSitters.number();
    }

    private int letPass(int set, int habit, int minutes, int part) {
        if (!isHabit(habit) || !isWithin(minutes, 1, MOST_MINUTES) || !isWithin(part, 0, 1)) {
            return OUTSIDE;
        }
        int refusal = seatAll(set);
        if (refusal == FINE) {
            passing.start(set, habit, minutes);
        }
        return refusal;
    }

    private void seatSeenRow(int row) {
        sitters.leave();
        for (int place = 0; place < scene.seenLengths[row]; place++) {
            sitters.sit(scene.seenSeat(row, place));
        }
    }

    private int firstMisfit(int habit) {
        for (int row = 0; row < scene.seenRows; row++) {
            sitters.leave();
            for (int place = 0; place < scene.seenLengths[row]; place++) {
                int seat = scene.seenSeat(row, place);
                if (sitters.choice(habit) != seat) {
                    return 100 * row + place;
                }
                sitters.sit(seat);
            }
        }
        return NONE;
    }

    private int worthTold(int what) {
        if (!isWithin(what, FIRST_WORTH_TOLD, FIRST_WORTH_TOLD + MOST_SEATS - 1)) {
            return OUTSIDE;
        }
        int seat = what - FIRST_WORTH_TOLD;
        return isSeat(seat) ? scene.worths[seat] : NONE;
    }

    private static long lowestPart(long upper, long lower, int part) {
        long common = commonDivisor(upper, lower);
        if (common == 0) {
            return 0;
        }
        return (part == 0 ? upper : lower) / common;
    }

    private static long commonDivisor(long one, long other) {
        long greater = one;
        long lesser = other;
        // Euclid's steps on longs are fewer than 100
        for (int step = 0; step < 100 && lesser != 0; step++) {
            long rest = greater % lesser;
            greater = lesser;
            lesser = rest;
        }
        return greater;
    }

    /** The signs told so far. */
    private static final class Pad {
        final int[] signs;
        int count;

        Pad() {
            signs = new int[MOST_SIGNS];
        }

        boolean add(int sign) {
            if (count >= MOST_SIGNS) {
                return false;
            }
            signs[count] = sign;
            count++;
            return true;
        }

        int firstFault() {
            int seats = 0;
            boolean closed = false;
            for (int place = 0; place < count; place++) {
                int sign = signs[place];
                if (closed || !canStand(sign, seats)) {
                    return place;
                }
                if (sign == SEAT_SIGN) {
                    seats++;
                }
                closed = sign == RING_SIGN;
            }
            return seats == 0 ? count : NONE;
        }

        private static boolean canStand(int sign, int seats) {
            switch (sign) {
                case SEAT_SIGN:
                    return seats < MOST_SEATS;
                case RING_SIGN:
                    return seats > 0;
                default:
                    return sign == GAP_SIGN || sign == ARM_SIGN;
            }
        }

        /** Writes how far each SEAT is from the next one (CUT: no step leads there), and tells how many SEATS there are. */
        int writeSteps(int[] steps) {
            int seats = 0;
            int headStep = 1;
            int step = 1;
            boolean ring = false;
            for (int place = 0; place < count; place++) {
                int sign = signs[place];
                if (sign == SEAT_SIGN && seats < MOST_SEATS) {
                    if (seats == 0) {
                        headStep = step;
                    } else {
                        steps[seats - 1] = step;
                    }
                    seats++;
                    step = 1;
                } else if (sign == ARM_SIGN) {
                    step = CUT;
                } else if (sign == GAP_SIGN && step != CUT) {
                    step++;
                } else if (sign == RING_SIGN) {
                    ring = true;
                }
            }
            if (seats > 0) {
                boolean closes = ring && seats > 1 && step != CUT && headStep != CUT;
                steps[seats - 1] = closes ? step + headStep - 1 : CUT;
            }
            return seats;
        }
    }

    /** All that an IMAGE keeps. */
    private static final class Scene {
        final int[] steps;
        final int[] worths;
        final int[] comers;
        final int[] seen;
        final int[] seenLengths;
        int seats;
        int bear;
        int comerCount;
        int seenRows;

        Scene() {
            steps = new int[MOST_SEATS];
            worths = new int[MOST_SEATS];
            comers = new int[MOST_COMERS];
            seen = new int[MOST_SEEN_ROWS * MOST_SEATS];
            seenLengths = new int[MOST_SEEN_ROWS];
            seats = 1;
            bear = FIRST_BEAR;
        }

        void copyFrom(Scene other) {
            System.arraycopy(other.steps, 0, steps, 0, MOST_SEATS);
            System.arraycopy(other.worths, 0, worths, 0, MOST_SEATS);
            System.arraycopy(other.comers, 0, comers, 0, MOST_COMERS);
            System.arraycopy(other.seen, 0, seen, 0, MOST_SEEN_ROWS * MOST_SEATS);
            System.arraycopy(other.seenLengths, 0, seenLengths, 0, MOST_SEEN_ROWS);
            seats = other.seats;
            bear = other.bear;
            comerCount = other.comerCount;
            seenRows = other.seenRows;
        }

        int allSeats() {
            return (1 << seats) - 1;
        }

        int cutPlaces() {
            int cut = 0;
            for (int place = 0; place < seats - 1; place++) {
                if (steps[place] == CUT) {
                    cut |= 1 << place;
                }
            }
            return cut;
        }

        int seenSeat(int row, int place) {
            return seen[row * MOST_SEATS + place];
        }

        boolean noteSeen(int row, int seat) {
            int length = seenLengths[row];
            if (length >= MOST_SEATS) {
                return false;
            }
            seen[row * MOST_SEATS + length] = seat;
            seenLengths[row] = length + 1;
            return true;
        }
    }

    /** How far the SEATS of a scene are apart, perhaps with more ARMS on it. */
    private static final class Bench {
        final Scene scene;
        final int[] apart;
        final int[] clash;
        final int[] neighbours;

        Bench(Scene scene) {
            this.scene = scene;
            apart = new int[MOST_SEATS * MOST_SEATS];
            clash = new int[MOST_SEATS];
            neighbours = new int[MOST_SEATS];
        }

        int farness(int seat, int other) {
            return apart[seat * MOST_SEATS + other];
        }

        void measure(int moreArms) {
            for (int seat = 0; seat < scene.seats; seat++) {
                for (int other = 0; other < scene.seats; other++) {
                    apart[seat * MOST_SEATS + other] = seat == other ? 0 : UNREACHED;
                }
            }
            for (int seat = 0; seat < scene.seats; seat++) {
                walkOn(seat, moreArms);
            }
            for (int seat = 0; seat < scene.seats; seat++) {
                lookRound(seat);
            }
        }

        /** The walk from each SEAT to higher ones, and on through the ring, meets each way between two SEATS once. */
        private void walkOn(int start, int moreArms) {
            int seats = scene.seats;
            int seat = start;
            int walked = 0;
            for (int i = 1; i < seats; i++) {
                boolean armed = (moreArms >> seat & 1) != 0;
                if (armed || scene.steps[seat] == CUT) {
                    return;
                }
                walked += scene.steps[seat];
                seat = seat + 1 < seats ? seat + 1 : 0;
                if (walked < apart[start * MOST_SEATS + seat]) {
                    apart[start * MOST_SEATS + seat] = walked;
                    apart[seat * MOST_SEATS + start] = walked;
                }
            }
        }

        private void lookRound(int seat) {
            int tooNear = 0;
            int beside = 0;
            for (int other = 0; other < scene.seats; other++) {
                int farness = apart[seat * MOST_SEATS + other];
                if (farness < scene.bear) {
                    tooNear |= 1 << other;
                }
                if (farness == 1) {
                    beside++;
                }
            }
            clash[seat] = tooNear;
            neighbours[seat] = beside;
        }
    }

    /** Who sits on a bench, and how far each SEAT is from the nearest of them. */
    private static final class Sitters {
        final Bench bench;
        final int[] nearest;
        int set;
        int bear;

        Sitters(Bench bench) {
            this.bench = bench;
            nearest = new int[MOST_SEATS];
        }

        void leave() {
            set = 0;
            bear = bench.scene.bear;
            Arrays.fill(nearest, UNREACHED);
        }

        int number() {
            return Integer.bitCount(set);
        }

        /** A SEAT that is taken is 0 from itself, so it is not open. */
        boolean isOpen(int seat) {
            return nearest[seat] >= bear;
        }

        void sit(int seat) {
            set |= 1 << seat;
            for (int other = 0; other < bench.scene.seats; other++) {
                nearest[other] = Math.min(nearest[other], bench.farness(seat, other));
            }
        }

        /** Tells whether all could sit down, one after another. */
        boolean seatSet(int wanted) {
            leave();
            for (int seat = 0; seat < bench.scene.seats; seat++) {
                if ((wanted >> seat & 1) != 0) {
                    if (!isOpen(seat)) {
                        return false;
                    }
                    sit(seat);
                }
            }
            return true;
        }

        int openSeats() {
            int open = 0;
            for (int seat = 0; seat < bench.scene.seats; seat++) {
                if (isOpen(seat)) {
                    open |= 1 << seat;
                }
            }
            return open;
        }

        int choice(int habit) {
            int best = NONE;
            int bestWish = 0;
            for (int seat = 0; seat < bench.scene.seats; seat++) {
                if (isOpen(seat)) {
                    int wish = wishFor(seat, habit);
                    if (best == NONE || wish > bestWish) {
                        best = seat;
                        bestWish = wish;
                    }
                }
            }
            return best;
        }

        /** The second of two wishes never outweighs the first: no WORTH is above 9, no SEAT farther than 99. */
        private int wishFor(int seat, int habit) {
            switch (habit) {
                case FAR_HABIT:
                    return 10 * nearest[seat] + bench.scene.worths[seat];
                case SUN_HABIT:
                    return 100 * bench.scene.worths[seat] + nearest[seat];
                case GREATEST_HABIT:
                    return seat;
                case NEAR_HABIT:
                    return -nearest[seat];
                case END_HABIT:
                    return nearest[seat] - 100 * bench.neighbours[seat];
                case LEAST_HABIT:
                default:
                    return 0;
            }
        }

        void fillUp(int habit) {
            for (int i = 0; i < MOST_SEATS; i++) {
                int seat = choice(habit);
                if (seat == NONE) {
                    return;
                }
                sit(seat);
            }
        }
    }

    /** All sets of places of which no two clash, the lesser as bits first; others may use the rows again. */
    private static final class Sets {
        final int[] filled;
        final int[] open;
        final int[] chance;
        int size;
        int places;

        Sets() {
            filled = new int[MOST_SETS];
            open = new int[MOST_SETS];
            chance = new int[MOST_SETS];
        }

        /** Sets with a place come behind all those of lesser places, so the list stays in order. */
        void list(int[] clash, int placeCount, int within) {
            filled[0] = 0;
            open[0] = within;
            size = 1;
            places = placeCount;
            for (int place = 0; place < placeCount; place++) {
                int had = size;
                for (int i = 0; i < had && size < MOST_SETS; i++) {
                    if ((open[i] >> place & 1) != 0) {
                        filled[size] = filled[i] | 1 << place;
                        open[size] = open[i] & ~clash[place];
                        size++;
                    }
                }
            }
        }

        int mostIn() {
            int most = 0;
            for (int i = 0; i < size; i++) {
                most = Math.max(most, Integer.bitCount(filled[i]));
            }
            return most;
        }

        /** In how many of all orders ANY comes through each set. Each share is itself such a number, so none has a rest. */
        void spreadChances() {
            for (int i = 0; i < size; i++) {
                chance[filled[i]] = 0;
            }
            chance[0] = ALL_ORDERS;
            for (int i = 0; i < size; i++) {
                int count = Integer.bitCount(open[i]);
                if (count == 0) {
                    continue;
                }
                int share = chance[filled[i]] / count;
                for (int place = 0; place < places; place++) {
                    if ((open[i] >> place & 1) != 0) {
                        chance[filled[i] | 1 << place] += share;
                    }
                }
            }
        }

        /** The MEAN of a bench times ALL_ORDERS; SEATS that never clash, even through others, are reckoned apart. */
        long sumOfSitters(Bench bench) {
            long sum = 0;
            int left = bench.scene.allSeats();
            for (int seat = 0; seat < bench.scene.seats; seat++) {
                if ((left >> seat & 1) != 0) {
                    int group = groupOf(bench, seat);
                    left &= ~group;
                    sum += sumWithin(bench, group);
                }
            }
            return sum;
        }

        private long sumWithin(Bench bench, int group) {
            long sum = 0;
            list(bench.clash, bench.scene.seats, group);
            spreadChances();
            for (int i = 0; i < size; i++) {
                if (open[i] == 0) {
                    sum += (long) Integer.bitCount(filled[i]) * chance[filled[i]];
                }
            }
            return sum;
        }

        private static int groupOf(Bench bench, int seat) {
            int group = 1 << seat;
            for (int round = 0; round < MOST_SEATS; round++) {
                int grown = group;
                for (int other = 0; other < bench.scene.seats; other++) {
                    if ((group >> other & 1) != 0) {
                        grown |= bench.clash[other];
                    }
                }
                if (grown == group) {
                    break;
                }
                group = grown;
            }
            return group;
        }
    }

    /** What the WHOLE sets are; kept till ROOM or BEAR is another one. */
    private static final class Census {
        final int[] wholeSets;
        final long[] orders;
        int least;
        int most;
        boolean known;

        Census() {
            wholeSets = new int[MOST_SEATS + 1];
            orders = new long[MOST_SEATS + 1];
        }

        void take(Bench bench, Sets sets) {
            if (known) {
                return;
            }
            sets.list(bench.clash, bench.scene.seats, bench.scene.allSeats());
            sets.spreadChances();
            Arrays.fill(wholeSets, 0);
            Arrays.fill(orders, 0L);
            least = NONE;
            most = NONE;
            for (int i = 0; i < sets.size; i++) {
                if (sets.open[i] == 0) {
                    note(sets.filled[i], sets.chance[sets.filled[i]]);
                }
            }
            known = true;
        }

        private void note(int set, int chance) {
            int number = Integer.bitCount(set);
            wholeSets[number]++;
            orders[number] += chance;
            if (least == NONE || number < Integer.bitCount(least)) {
                least = set;
            }
            if (most == NONE || number > Integer.bitCount(most)) {
                most = set;
            }
        }

        long sumOfSitters() {
            long sum = 0;
            for (int number = 0; number <= MOST_SEATS; number++) {
                sum += number * orders[number];
            }
            return sum;
        }
    }

    /** How many sit in the end of the GAME from each FILLED set on; kept till ROOM or BEAR is another one. */
    private static final class Match {
        final int[] kind;
        final int[] wicked;
        boolean known;

        Match() {
            kind = new int[MOST_SETS];
            wicked = new int[MOST_SETS];
        }

        void play(Bench bench, Sets sets) {
            if (known) {
                return;
            }
            sets.list(bench.clash, bench.scene.seats, bench.scene.allSeats());
            for (int i = sets.size - 1; i >= 0; i--) {
                settle(sets.filled[i], sets.open[i], sets.places);
            }
            known = true;
        }

        private void settle(int set, int open, int seats) {
            int now = Integer.bitCount(set);
            int most = open == 0 ? now : 0;
            int fewest = open == 0 ? now : MOST_SEATS;
            for (int seat = 0; seat < seats; seat++) {
                if ((open >> seat & 1) != 0) {
                    most = Math.max(most, wicked[set | 1 << seat]);
                    fewest = Math.min(fewest, kind[set | 1 << seat]);
                }
            }
            kind[set] = most;
            wicked[set] = fewest;
        }

        int result(int set, int turn) {
            return turn == 0 ? kind[set] : wicked[set];
        }

        int bestSeat(int set, int open, int turn) {
            int wanted = result(set, turn);
            for (int seat = 0; seat < MOST_SEATS; seat++) {
                if ((open >> seat & 1) != 0 && result(set | 1 << seat, 1 - turn) == wanted) {
                    return seat;
                }
            }
            return NONE;
        }
    }

    /** SEATS that are 1 apart, two by two; of one ring of 12 there are no more than 12. */
    private static final class Couples {
        final int[] lesser;
        final int[] greater;
        final int[] tooNear;
        final int[] clash;
        int count;

        Couples() {
            lesser = new int[MOST_SEATS];
            greater = new int[MOST_SEATS];
            tooNear = new int[MOST_SEATS];
            clash = new int[MOST_SEATS];
        }

        void list(Bench bench) {
            count = 0;
            for (int seat = 0; seat < bench.scene.seats; seat++) {
                for (int other = seat + 1; other < bench.scene.seats; other++) {
                    if (bench.farness(seat, other) == 1 && count < MOST_SEATS) {
                        lesser[count] = seat;
                        greater[count] = other;
                        tooNear[count] = bench.clash[seat] | bench.clash[other];
                        count++;
                    }
                }
            }
        }

        /** One pass is enough: two that could not sit will not be able to when more sit. */
        int sitInTurn(Sitters sitters) {
            int seated = 0;
            sitters.leave();
            for (int pair = 0; pair < count; pair++) {
                if (sitters.isOpen(lesser[pair]) && sitters.isOpen(greater[pair])) {
                    sitters.sit(lesser[pair]);
                    sitters.sit(greater[pair]);
                    seated++;
                }
            }
            return seated;
        }

        /** Pairs bear each other or not, as SEATS do, so they are listed like SEATS. */
        int mostAtOnce(Sets sets) {
            for (int pair = 0; pair < count; pair++) {
                clash[pair] = 0;
                for (int other = 0; other < count; other++) {
                    int both = 1 << lesser[other] | 1 << greater[other];
                    if ((tooNear[pair] & both) != 0) {
                        clash[pair] |= 1 << other;
                    }
                }
            }
            sets.list(clash, count, (1 << count) - 1);
            return sets.mostIn();
        }
    }

    /** MINUTES: all that can happen in them, in parts of one. */
    private static final class Passing {
        final Sitters sitters;
        final long[] odds;
        long turnedAway;
        long parts;
        int habit;

        Passing(Sitters sitters) {
            this.sitters = sitters;
            odds = new long[MOST_SEATS + 1];
        }

        void start(int set, int byHabit, int minutes) {
            Arrays.fill(odds, 0L);
            turnedAway = 0;
            habit = byHabit;
            parts = 1;
            for (int i = 0; i < minutes; i++) {
                parts *= MINUTE_PARTS;
            }
            go(set, minutes, parts);
        }

        /** Two calls stand open for each minute that is left, and there are never more than MOST_MINUTES. */
        private void go(int set, int left, long share) {
            if (left <= 0) {
                odds[Integer.bitCount(set)] += share;
                return;
            }
            oneComes(set, left, share / 2);
            oneGoes(set, left, share / 2);
        }

        private void oneComes(int set, int left, long share) {
            sitters.seatSet(set);
            int seat = sitters.choice(habit);
            if (seat == NONE) {
                turnedAway += share;
                go(set, left - 1, share);
            } else {
                go(set | 1 << seat, left - 1, share);
            }
        }

        private void oneGoes(int set, int left, long share) {
            int number = Integer.bitCount(set);
            if (number == 0) {
                go(set, left - 1, share);
                return;
            }
            for (int seat = 0; seat < MOST_SEATS; seat++) {
                if ((set >> seat & 1) != 0) {
                    go(set & ~(1 << seat), left - 1, share / number);
                }
            }
        }
    }

    /** ROWS: what lies between two who sit is filled without regard to all else, so it is known by its length. */
    private static final class LongRows {
        final int[] between;

        LongRows() {
            between = new int[LONGEST_ROW + 1];
            for (int free = 3; free <= LONGEST_ROW; free++) {
                int lesser = (free - 1) / 2;
                between[free] = 1 + between[lesser] + between[free - 1 - lesser];
            }
        }

        int comeIn(int seats, int taken) {
            return 1 + beyond(taken) + beyond(seats - 1 - taken);
        }

        /** At the end of a row its last SEAT is the farthest. */
        private int beyond(int free) {
            return free < 2 ? 0 : 1 + between[free - 1];
        }
    }
}
