import java.util.Arrays;

/**
 * Elections by avalanche: voters set stones on ledges, and the ledge that comes down first has won.
 * Every row that a call needs is made with the object, so that no call makes anything.
 */
public final class AvalancheVote {
    public static final int NONE = -1, BAD = -2, NO = -3, FULL = -4;

    private static final int BAD_TEN = -10;
    private static final int NOT_SO_MANY = -5;
    private static final int READ_FAULT = -10;

    private static final int LEDGES = 8;
    private static final int VOTERS = 6;
    private static final int SEEN = 6;
    private static final int PASTS = 8;
    private static final int PAST_SIZE = 2 * LEDGES + 3;
    private static final int IMAGES = 2;
    private static final int BYTES = 150;

    private static final int MOST_HOLDS = 60;
    private static final int MOST_SNOW = 30;
    private static final int MOST_KIND = 5;
    private static final int MOST_STONE = 9;
    private static final int MOST_NIGHT = 9;
    private static final int MOST_NIGHTS = 60;
    private static final int MOST_HEFT = 20;
    private static final int MOST_STONES = 5;
    private static final int MOST_TURNS = 4;
    private static final int MOST_STICK = 60;
    private static final int MOST_SEEN_LOAD = 99;
    private static final int MOST_SEED = 999999;
    private static final int MOST_SEEDED_VOTES = 60;
    private static final int MOST_BYTE = 127;
    private static final int OF_TEN = 10;

    private static final int A_WINS = 2, NEITHER = 1, B_WINS = 0;

    private final State now;
    private final State draft;
    private final State[] images;
    private int keptImages;
    private final Reader reader;
    private final Foresight foresight;
    private long fractionAbove;
    private long fractionBelow;
    private int bads;
    private int nos;
    private int fulls;

    public AvalancheVote() {
        Plain[] kinds = {
            new Plain(), new Cautious(), new Loud(), new Skier(), new Goat(), new Whip()
        };
        now = new State(kinds);
        draft = new State(kinds);
        images = new State[IMAGES];
        for (int i = 0; i < IMAGES; i++) {
            images[i] = new State(kinds);
        }
        reader = new Reader();
        foresight = new Foresight(now);
        fractionBelow = 1;
    }

    // ---- a mountain

    public int mountain() {
        int had = now.told.ledges;
        now.startAnew();
        return had;
    }

    public int ledge(int holds, int snow, int below) {
        if (!within(holds, 1, MOST_HOLDS) || !within(snow, 0, MOST_SNOW)
                || !within(below, NONE, now.told.ledges - 1)) {
            return bad(BAD);
        }
        if (now.told.ledges >= LEDGES) {
            return full();
        }
        return now.addLedge(holds, snow, below);
    }

    public int voter(int kind, int k, int stone) {
        if (!within(kind, 0, MOST_KIND) || !isLedge(k) || !within(stone, 1, MOST_STONE)) {
            return bad(BAD);
        }
        if (now.told.voters >= VOTERS) {
            return full();
        }
        return now.addVoter(kind, k, stone);
    }

    public int type(int c) {
        if (!within(c, 0, MOST_BYTE)) {
            return bad(BAD);
        }
        if (reader.length >= BYTES) {
            return full();
        }
        reader.append(c);
        return reader.length;
    }

    public int clear() {
        int had = reader.length;
        reader.length = 0;
        return had;
    }

    public int read() {
        int items = reader.readInto(draft);
        if (reader.fault != NONE) {
            return READ_FAULT - reader.fault;
        }
        now.copyFrom(draft);
        return items;
    }

    // ---- votes

    public int vote(int voter) {
        if (!isVoter(voter)) {
            return bad(BAD);
        }
        now.keepPast();
        now.slope.cast(voter);
        return now.slope.fell;
    }

    public int night(int n) {
        if (!within(n, 1, MOST_NIGHT)) {
            return bad(BAD);
        }
        now.keepPast();
        now.slope.snowOver(n);
        return now.slope.fell;
    }

    public int undo() {
        if (now.pasts <= 0) {
            return no();
        }
        now.goBack();
        return now.slope.votes;
    }

    public int of(int k, int what) {
        if (!isLedge(k)) {
            return bad(BAD_TEN);
        }
        switch (what) {
            case 0: return now.told.holds[k];
            case 1: return now.slope.snow[k];
            case 2: return now.slope.stones[k];
            case 3: return now.told.below[k];
            default: return bad(BAD_TEN);
        }
    }

    public int about(int voter, int what) {
        if (!isVoter(voter)) {
            return bad(BAD);
        }
        switch (what) {
            case 0: return now.told.kind[voter];
            case 1: return now.told.goal[voter];
            case 2: return now.told.stone[voter];
            case 3: return placeAs(now.told.kind[voter], voter);
            case 4: return heftAs(now.told.kind[voter], voter);
            default: return bad(BAD);
        }
    }

    public int winner() {
        return now.slope.winner;
    }

    public int coalition() {
        return now.slope.coalition;
    }

    // ---- who wins

    public int february(int what) {
        if (!within(what, 0, 1)) {
            return bad(BAD);
        }
        Slope then = foresight.afterFebruary();
        return what == 0 ? then.winner : then.coalition;
    }

    public int orders(int k, int i) {
        if (!isLedge(k) || i < NONE) {
            return bad(BAD_TEN);
        }
        if (now.slope.winner != NONE) {
            return no();
        }
        int won = foresight.ordersWon(k);
        if (i == NONE) {
            return won;
        }
        if (won == 0) {
            return NONE;
        }
        return i < now.told.voters && i < VOTERS ? foresight.order[i] : NOT_SO_MANY;
    }

    public int stones(int k, int what) {
        if (!isLedge(k) || !within(what, 0, 1)) {
            return bad(BAD);
        }
        int fewest = foresight.fewestStones(k);
        return what == 0 ? fewest : foresight.firstLedge;
    }

    public int buried(int k, int n) {
        if (!isLedge(k) || !within(n, 1, MOST_HEFT)) {
            return bad(BAD);
        }
        return foresight.buriedBy(k, n);
    }

    public int nights(int k, int n) {
        if (!isLedge(k) || !within(n, 1, MOST_NIGHT)) {
            return bad(BAD);
        }
        return foresight.nightsTill(k, n);
    }

    public int parties(int k, int j, int n, int what) {
        if (!isLedge(k) || !isLedge(j) || k == j || !within(n, 1, MOST_TURNS) || !within(what, 0, 1)) {
            return bad(BAD_TEN);
        }
        int outcome = foresight.play(k, j, n);
        return what == 0 ? outcome : foresight.firstLedge;
    }

    // ---- sticks

    public int seen(int v, int bore) {
        if (!within(v, 0, MOST_SEEN_LOAD) || !within(bore, 0, 1)) {
            return bad(BAD);
        }
        if (now.seens >= SEEN) {
            return full();
        }
        return now.addSeen(v, bore);
    }

    public int forget() {
        int had = now.seens;
        now.seens = 0;
        return had;
    }

    public int hold(int what) {
        if (!within(what, 0, 1)) {
            return bad(BAD_TEN);
        }
        int least = now.leastHold();
        int fitting = spread(least, now.greatestHold());
        if (what == 0) {
            return fitting;
        }
        return fitting > 0 ? least : NONE;
    }

    public int stick() {
        int least = now.leastHold();
        int greatest = now.greatestHold();
        int fitting = spread(least, greatest);
        if (fitting == 0) {
            return NONE;
        }
        int best = 0;
        int bestPart = fitting;
        for (int v = 0; v <= MOST_STICK; v++) {
            int bearing = spread(Math.max(least, v), greatest);
            int part = Math.max(bearing, fitting - bearing);
            if (part < bestPart) {
                bestPart = part;
                best = v;
            }
        }
        return best;
    }

    public int is(int voter, int k, int w) {
        if (!isVoter(voter) || !isLedge(k) || !within(w, 1, MOST_HEFT)) {
            return bad(BAD);
        }
        int bits = 0;
        for (int kind = 0; kind <= MOST_KIND; kind++) {
            if (placeAs(kind, voter) == k && heftAs(kind, voter) == w) {
                bits |= 1 << kind;
            }
        }
        return bits;
    }

    public int sneeze(int k, int c) {
        if (!isLedge(k) || !within(c, 0, OF_TEN)) {
            return bad(BAD);
        }
        long parts = foresight.partsWon(k, c);
        long all = tenTo(now.told.voters);
        long common = commonDivisor(parts, all);
        if (common > 0) {
            fractionAbove = parts / common;
            fractionBelow = all / common;
        }
        return 1;
    }

    public int februaries(int seed, int n) {
        if (!within(seed, 0, MOST_SEED) || !within(n, 0, MOST_SEEDED_VOTES)) {
            return bad(BAD);
        }
        if (now.told.voters <= 0 || now.told.ledges <= 0) {
            return no();
        }
        return foresight.loadAfter(seed, n);
    }

    // ---- what there is

    public long part(int what) {
        if (!within(what, 0, 1)) {
            return bad(BAD);
        }
        return what == 0 ? fractionAbove : fractionBelow;
    }

    public int image(int i) {
        if (!within(i, 0, IMAGES - 1)) {
            return bad(BAD);
        }
        images[i].copyFrom(now);
        keptImages |= 1 << i;
        return 1;
    }

    public int from(int i) {
        if (!within(i, 0, IMAGES - 1)) {
            return bad(BAD);
        }
        if (!hasBit(keptImages, i)) {
            return no();
        }
        now.copyFrom(images[i]);
        return 1;
    }

    public int status(int what) {
        switch (what) {
            case 0: return bads;
            case 1: return nos;
            case 2: return fulls;
            default: return bad(-1);
        }
    }

    public int count(int what) {
        return within(what, 0, 6) ? howMany(what) : bad(BAD);
    }

    public long digest() {
        long h = 1151;
        for (int what = 0; what <= 6; what++) {
            h = 31 * h + howMany(what);
        }
        h = now.digestFrom(h);
        h = 31 * h + fractionAbove;
        return 31 * h + fractionBelow;
    }

    // ---- what the calls share

    private int howMany(int what) {
        switch (what) {
            case 0: return now.told.ledges;
            case 1: return now.told.voters;
            case 2: return now.slope.votes;
            case 3: return now.slope.loadOfAll();
            case 4: return now.seens;
            case 5: return now.pasts;
            default: return reader.length;
        }
    }

    private int placeAs(int kind, int voter) {
        return now.told.kindOf(kind).place(now.slope, now.told.goal[voter], now.told.stone[voter]);
    }

    private int heftAs(int kind, int voter) {
        return now.told.kindOf(kind).heft(now.told.stone[voter]);
    }

    private boolean isLedge(int k) {
        return within(k, 0, now.told.ledges - 1);
    }

    private boolean isVoter(int voter) {
        return within(voter, 0, now.told.voters - 1);
    }

    private int bad(int answer) {
        bads++;
        return answer;
    }

    private int no() {
        nos++;
        return NO;
    }

    private int full() {
        fulls++;
        return FULL;
    }

    private static boolean within(int value, int least, int most) {
        return value >= least && value <= most;
    }

    private static boolean hasBit(int bits, int i) {
        return (bits >> i & 1) != 0;
    }

    private static int spread(int least, int greatest) {
        return Math.max(0, greatest - least + 1);
    }

    private static long tenTo(int n) {
        long power = 1;
        for (int i = 0; i < n; i++) {
            power *= OF_TEN;
        }
        return power;
    }

    private static long commonDivisor(long a, long b) {
        long x = a;
        long y = b;
        // Euclid's steps on numbers up to 10^6 are under 40; the bound only shows that it ends.
        for (int step = 0; step < 100 && y != 0; step++) {
            long rest = x % y;
            x = y;
            y = rest;
        }
        return x;
    }

    // ---- the kinds, each under the one that it extends

    private static class Plain {
        int heft(int stone) {
            return stone;
        }

        int place(Slope slope, int goal, int stone) {
            return goal;
        }
    }

    private static class Cautious extends Plain {
        int place(Slope slope, int goal, int stone) {
            int plain = super.place(slope, goal, stone);
            return slope.bears(plain, heft(stone)) ? plain : slope.lightest();
        }
    }

    private static class Loud extends Plain {
        int heft(int stone) {
            return 2 * stone;
        }
    }

    private static final class Skier extends Cautious {
        int heft(int stone) {
            return (stone + 1) / 2;
        }
    }

    private static final class Goat extends Plain {
        int place(Slope slope, int goal, int stone) {
            int plain = super.place(slope, goal, stone);
            int under = slope.told.ledgeBelow(plain);
            return under == NONE ? plain : under;
        }
    }

    private static final class Whip extends Loud {
        int place(Slope slope, int goal, int stone) {
            return slope.votes % 2 != 0 ? slope.heaviest() : super.place(slope, goal, stone);
        }
    }

    /** What no vote changes: how the ledges are built, and who the voters are. */
    private static final class Told {
        private final Plain[] kinds;
        private int ledges;
        private final int[] holds = new int[LEDGES];
        private final int[] below = new int[LEDGES];
        private int voters;
        private final int[] kind = new int[VOTERS];
        private final int[] goal = new int[VOTERS];
        private final int[] stone = new int[VOTERS];

        Told(Plain[] kinds) {
            this.kinds = kinds;
        }

        void copyFrom(Told other) {
            ledges = other.ledges;
            System.arraycopy(other.holds, 0, holds, 0, LEDGES);
            System.arraycopy(other.below, 0, below, 0, LEDGES);
            voters = other.voters;
            System.arraycopy(other.kind, 0, kind, 0, VOTERS);
            System.arraycopy(other.goal, 0, goal, 0, VOTERS);
            System.arraycopy(other.stone, 0, stone, 0, VOTERS);
        }

        Plain kindOf(int kind) {
            return kinds[within(kind, 0, kinds.length - 1) ? kind : 0];
        }

        int ledgeBelow(int k) {
            return within(k, 0, ledges - 1) ? below[k] : NONE;
        }

        /** The ledges from which something can come onto k, and k. */
        int bitsAbove(int k) {
            int bits = 1 << k;
            // A ledge came later than the one below it, so one rising pass finds them all.
            for (int i = k + 1; i < ledges; i++) {
                if (below[i] != NONE && hasBit(bits, below[i])) {
                    bits |= 1 << i;
                }
            }
            return bits;
        }
    }

    /** What votes and nights change; with what came down by the last stone or night. */
    private static final class Slope {
        private final Told told;
        private final int[] snow = new int[LEDGES];
        private final int[] stones = new int[LEDGES];
        private int votes;
        private int winner = NONE;
        private int coalition;
        private int fell;
        private int covered;
        private final int[] turn = new int[LEDGES];

        Slope(Told told) {
            this.told = told;
        }

        void copyFrom(Slope other) {
            System.arraycopy(other.snow, 0, snow, 0, LEDGES);
            System.arraycopy(other.stones, 0, stones, 0, LEDGES);
            votes = other.votes;
            winner = other.winner;
            coalition = other.coalition;
        }

        void saveTo(int[] row, int at) {
            if (at < 0 || at + PAST_SIZE > row.length) {
                return;
            }
            System.arraycopy(snow, 0, row, at, LEDGES);
            System.arraycopy(stones, 0, row, at + LEDGES, LEDGES);
            row[at + 2 * LEDGES] = votes;
            row[at + 2 * LEDGES + 1] = winner;
            row[at + 2 * LEDGES + 2] = coalition;
        }

        void loadFrom(int[] row, int at) {
            if (at < 0 || at + PAST_SIZE > row.length) {
                return;
            }
            System.arraycopy(row, at, snow, 0, LEDGES);
            System.arraycopy(row, at + LEDGES, stones, 0, LEDGES);
            votes = row[at + 2 * LEDGES];
            winner = row[at + 2 * LEDGES + 1];
            coalition = row[at + 2 * LEDGES + 2];
        }

        void startAnew() {
            Arrays.fill(snow, 0);
            Arrays.fill(stones, 0);
            votes = 0;
            winner = NONE;
            coalition = 0;
        }

        void cast(int voter) {
            if (!within(voter, 0, told.voters - 1)) {
                return;
            }
            Plain kind = told.kindOf(told.kind[voter]);
            int stone = told.stone[voter];
            lay(kind.place(this, told.goal[voter], stone), kind.heft(stone));
            comeDown();
            votes++;
        }

        void lay(int k, int heft) {
            if (within(k, 0, told.ledges - 1)) {
                stones[k] += heft;
            }
        }

        void snowOver(int n) {
            for (int k = 0; k < told.ledges; k++) {
                snow[k] += n;
            }
            comeDown();
        }

        /**
         * One rising pass takes the first overloaded ledge each time: those ahead of k hold when k
         * is looked at, and what comes down from k can overload only the one below, which is ahead.
         */
        void comeDown() {
            boolean isOpen = winner == NONE;
            fell = 0;
            covered = 0;
            for (int k = 0; k < told.ledges; k++) {
                int at = k;
                for (int step = 0; step < LEDGES && !bears(at, 0); step++) {
                    at = drop(at);
                }
            }
            if (isOpen) {
                coalition = fell;
            }
        }

        /** Answers the ledge below. */
        private int drop(int k) {
            if (winner == NONE) {
                winner = k;
            }
            if (!hasBit(fell, k)) {
                turn[k] = Integer.bitCount(fell);
                fell |= 1 << k;
            }
            int under = told.below[k];
            if (under != NONE) {
                snow[under] += loadOf(k);
                covered |= 1 << under;
            }
            snow[k] = 0;
            stones[k] = 0;
            return under;
        }

        /** Whether k came down by the last stone, and not behind j. */
        boolean fellAhead(int k, int j) {
            return hasBit(fell, k) && (!hasBit(fell, j) || turn[k] < turn[j]);
        }

        /** The valley bears everything. */
        boolean bears(int k, int more) {
            return !within(k, 0, told.ledges - 1) || loadOf(k) + more <= told.holds[k];
        }

        int loadOf(int k) {
            return snow[k] + stones[k];
        }

        int loadOfAll() {
            int sum = 0;
            for (int k = 0; k < told.ledges; k++) {
                sum += loadOf(k);
            }
            return sum;
        }

        int lightest() {
            int best = 0;
            for (int k = 1; k < told.ledges; k++) {
                if (loadOf(k) < loadOf(best)) {
                    best = k;
                }
            }
            return best;
        }

        int heaviest() {
            int best = 0;
            for (int k = 1; k < told.ledges; k++) {
                if (loadOf(k) > loadOf(best)) {
                    best = k;
                }
            }
            return best;
        }

        /** Whether so many stones can bring down one of these, before anything else comes onto it. */
        boolean mayStart(int bits, int stonesLeft) {
            for (int k = 0; k < told.ledges; k++) {
                if (hasBit(bits, k) && !bears(k, stonesLeft)) {
                    return true;
                }
            }
            return false;
        }
    }

    /** All that an image keeps. */
    private static final class State {
        private final Told told;
        private final Slope slope;
        private final int[] past = new int[PASTS * PAST_SIZE];
        private int pasts;
        private final int[] seenLoad = new int[SEEN];
        private final int[] seenBore = new int[SEEN];
        private int seens;

        State(Plain[] kinds) {
            told = new Told(kinds);
            slope = new Slope(told);
        }

        void startAnew() {
            told.ledges = 0;
            told.voters = 0;
            slope.startAnew();
            pasts = 0;
            seens = 0;
        }

        void copyFrom(State other) {
            told.copyFrom(other.told);
            slope.copyFrom(other.slope);
            System.arraycopy(other.past, 0, past, 0, PASTS * PAST_SIZE);
            pasts = other.pasts;
            System.arraycopy(other.seenLoad, 0, seenLoad, 0, SEEN);
            System.arraycopy(other.seenBore, 0, seenBore, 0, SEEN);
            seens = other.seens;
        }

        int addLedge(int holds, int snow, int below) {
            int k = told.ledges;
            if (k < 0 || k >= LEDGES) {
                return FULL;
            }
            told.holds[k] = holds;
            told.below[k] = below;
            slope.snow[k] = snow;
            slope.stones[k] = 0;
            told.ledges = k + 1;
            pasts = 0;
            return k;
        }

        int addVoter(int kind, int goal, int stone) {
            int voter = told.voters;
            if (voter < 0 || voter >= VOTERS) {
                return FULL;
            }
            told.kind[voter] = kind;
            told.goal[voter] = goal;
            told.stone[voter] = stone;
            told.voters = voter + 1;
            pasts = 0;
            return voter;
        }

        int addSeen(int v, int bore) {
            if (seens < 0 || seens >= SEEN) {
                return FULL;
            }
            seenLoad[seens] = v;
            seenBore[seens] = bore;
            seens++;
            return seens;
        }

        void keepPast() {
            if (pasts >= PASTS) {
                System.arraycopy(past, PAST_SIZE, past, 0, (PASTS - 1) * PAST_SIZE);
                pasts = PASTS - 1;
            }
            slope.saveTo(past, pasts * PAST_SIZE);
            pasts++;
        }

        void goBack() {
            if (pasts > 0) {
                pasts--;
                slope.loadFrom(past, pasts * PAST_SIZE);
            }
        }

        /** What was borne is held: what fits is all that lies from here to the greatest. */
        int leastHold() {
            int least = 1;
            for (int i = 0; i < seens; i++) {
                if (seenBore[i] == 1) {
                    least = Math.max(least, seenLoad[i]);
                }
            }
            return least;
        }

        int greatestHold() {
            int greatest = MOST_HOLDS;
            for (int i = 0; i < seens; i++) {
                if (seenBore[i] == 0) {
                    greatest = Math.min(greatest, seenLoad[i] - 1);
                }
            }
            return greatest;
        }

        long digestFrom(long start) {
            long h = 31 * start + slope.winner;
            h = 31 * h + slope.coalition;
            for (int k = 0; k < told.ledges; k++) {
                h = 31 * h + told.holds[k];
                h = 31 * h + slope.snow[k];
                h = 31 * h + slope.stones[k];
                h = 31 * h + told.below[k];
            }
            for (int voter = 0; voter < told.voters; voter++) {
                h = 31 * h + told.kind[voter];
                h = 31 * h + told.goal[voter];
                h = 31 * h + told.stone[voter];
            }
            for (int i = 0; i < seens; i++) {
                h = 31 * h + seenLoad[i];
                h = 31 * h + seenBore[i];
            }
            return h;
        }
    }

    /** The text, and the mountain that it tells. Behind the first fault nothing more is taken. */
    private static final class Reader {
        private final byte[] text = new byte[BYTES];
        private int length;
        private int at;
        private int start;
        private int fault = NONE;

        void append(int c) {
            if (length < 0 || length >= BYTES) {
                return;
            }
            text[length] = (byte) c;
            length++;
        }

        /** How many items; what was read is of use only if there is no fault. */
        int readInto(State draft) {
            draft.startAnew();
            at = 0;
            fault = NONE;
            int items = 0;
            // Each item takes a byte or is at fault, so there are no more items than bytes.
            for (int i = 0; i <= length && fault == NONE && (i == 0 || at < length); i++) {
                readItem(draft, i == 0);
                items++;
                skipBlanks();
            }
            return items;
        }

        private void readItem(State draft, boolean isFirst) {
            takeWord();
            if (wordIs("mountain") != isFirst) {
                fault = start;
            } else if (wordIs("ledge")) {
                readLedge(draft, false);
            } else if (wordIs("below")) {
                readLedge(draft, true);
            } else if (wordIs("voter")) {
                readVoter(draft);
            } else if (!isFirst) {
                fault = start;
            }
            takeEnd();
        }

        private void readLedge(State draft, boolean isBelow) {
            if (draft.told.ledges >= LEDGES) {
                fault = start;
                return;
            }
            int holds = takeNumber(1, MOST_HOLDS);
            int snow = takeNumber(0, MOST_SNOW);
            int under = isBelow ? takeNumber(0, draft.told.ledges - 1) : NONE;
            if (fault == NONE) {
                draft.addLedge(holds, snow, under);
            }
        }

        private void readVoter(State draft) {
            if (draft.told.voters >= VOTERS) {
                fault = start;
                return;
            }
            int kind = takeNumber(0, MOST_KIND);
            int goal = takeNumber(0, draft.told.ledges - 1);
            int stone = takeNumber(1, MOST_STONE);
            if (fault == NONE) {
                draft.addVoter(kind, goal, stone);
            }
        }

        /** Where no word begins it takes an empty one, which is none. */
        private void takeWord() {
            skipBlanks();
            start = at;
            while (at < length && isBetween('a', 'z')) {
                at++;
            }
        }

        private boolean wordIs(String word) {
            if (at - start != word.length()) {
                return false;
            }
            for (int i = 0; i < word.length(); i++) {
                if (text[start + i] != word.charAt(i)) {
                    return false;
                }
            }
            return true;
        }

        /** A number of three figures is one token, at fault where it begins. */
        private int takeNumber(int least, int most) {
            if (fault != NONE) {
                return 0;
            }
            skipBlanks();
            start = at;
            int value = 0;
            while (at < length && isBetween('0', '9')) {
                value = at - start < 2 ? 10 * value + text[at] - '0' : value;
                at++;
            }
            int figures = at - start;
            if (figures < 1 || figures > 2 || !within(value, least, most)) {
                fault = start;
            }
            return value;
        }

        private void takeEnd() {
            if (fault != NONE) {
                return;
            }
            skipBlanks();
            if (at < length && isBetween(';', ';')) {
                at++;
            } else {
                fault = at;
            }
        }

        private void skipBlanks() {
            while (at < length && isBetween(' ', ' ')) {
                at++;
            }
        }

        private boolean isBetween(char least, char most) {
            return at >= 0 && at < BYTES && text[at] >= least && text[at] <= most;
        }
    }

    /** What would be; all of it happens on rows of its own, one for each stone that is ahead. */
    private static final class Foresight {
        private final Told told;
        private final Slope real;
        private final Slope[] rows = new Slope[VOTERS + 1];
        private final int[] order = new int[VOTERS];
        private int won;
        private int firstLedge;

        Foresight(State now) {
            told = now.told;
            real = now.slope;
            for (int i = 0; i < rows.length; i++) {
                rows[i] = new Slope(told);
            }
        }

        private Slope fresh() {
            rows[0].copyFrom(real);
            return rows[0];
        }

        private boolean isDeepest(int depth) {
            return depth < 0 || depth >= VOTERS;
        }

        Slope afterFebruary() {
            Slope row = fresh();
            for (int voter = 0; voter < told.voters; voter++) {
                row.cast(voter);
            }
            return row;
        }

        /** How many orders k wins; the first of them is left in the row of the order. */
        int ordersWon(int k) {
            fresh();
            won = 0;
            countOrders(0, k, 0);
            return won;
        }

        private void countOrders(int depth, int k, int gone) {
            int left = told.voters - depth;
            if (rows[depth].winner != NONE || left <= 0 || isDeepest(depth)) {
                // Behind a winner the others may come in any order.
                if (rows[depth].winner == k) {
                    fillOrder(depth, gone);
                    won += ordersOf(left);
                }
                return;
            }
            for (int voter = 0; voter < told.voters; voter++) {
                if (!hasBit(gone, voter)) {
                    if (won == 0) {
                        order[depth] = voter;
                    }
                    rows[depth + 1].copyFrom(rows[depth]);
                    rows[depth + 1].cast(voter);
                    countOrders(depth + 1, k, gone | 1 << voter);
                }
            }
        }

        private void fillOrder(int depth, int gone) {
            int next = depth;
            for (int voter = 0; voter < told.voters && won == 0; voter++) {
                if (!hasBit(gone, voter) && next < VOTERS) {
                    order[next] = voter;
                    next++;
                }
            }
        }

        private static int ordersOf(int n) {
            int product = 1;
            for (int i = 2; i <= n; i++) {
                product *= i;
            }
            return product;
        }

        /** The fewest stones, with the ledge of the first one beside; both none if there are none. */
        int fewestStones(int k) {
            fresh();
            int bits = told.bitsAbove(k);
            for (int n = 1; n <= MOST_STONES; n++) {
                for (int first = 0; first < told.ledges; first++) {
                    if (fallsBy(first, k, bits, n - 1, 0)) {
                        firstLedge = first;
                        return n;
                    }
                }
            }
            firstLedge = NONE;
            return NONE;
        }

        private boolean fallsBy(int on, int k, int bits, int left, int depth) {
            if (isDeepest(depth)) {
                return false;
            }
            Slope next = afterStone(on, depth);
            return hasBit(next.fell, k) || fallsWithin(k, bits, left, depth + 1);
        }

        /**
         * Once a stone was set all ledges hold: then stones that aren't above k do nothing for it,
         * and the fewest have none of them.
         */
        private boolean fallsWithin(int k, int bits, int left, int depth) {
            if (left <= 0 || !rows[depth].mayStart(bits, left)) {
                return false;
            }
            for (int on = 0; on < told.ledges; on++) {
                if (hasBit(bits, on) && fallsBy(on, k, bits, left - 1, depth)) {
                    return true;
                }
            }
            return false;
        }

        private Slope afterStone(int on, int depth) {
            Slope next = rows[depth + 1];
            next.copyFrom(rows[depth]);
            next.lay(on, 1);
            next.comeDown();
            return next;
        }

        int buriedBy(int k, int n) {
            Slope row = fresh();
            row.lay(k, n);
            row.comeDown();
            return row.covered;
        }

        int nightsTill(int k, int n) {
            Slope row = fresh();
            for (int night = 1; night <= MOST_NIGHTS; night++) {
                row.snowOver(n);
                if (hasBit(row.fell, k)) {
                    return night;
                }
            }
            return NONE;
        }

        /** How it ends, with the ledge on which a sets first beside. */
        int play(int k, int j, int n) {
            fresh();
            int best = NONE;
            for (int on = 0; on < told.ledges && best < A_WINS; on++) {
                int outcome = outcomeOf(on, k, j, n - 1, 0);
                if (outcome > best) {
                    best = outcome;
                    firstLedge = on;
                }
            }
            return best;
        }

        private int outcomeOf(int on, int k, int j, int left, int depth) {
            if (isDeepest(depth)) {
                return NEITHER;
            }
            Slope next = afterStone(on, depth);
            if (next.fellAhead(k, j)) {
                return A_WINS;
            }
            return next.fellAhead(j, k) ? B_WINS : bestOutcome(k, j, left, depth + 1);
        }

        private int bestOutcome(int k, int j, int left, int depth) {
            if (left <= 0 || !rows[depth].mayStart(told.bitsAbove(k) | told.bitsAbove(j), left)) {
                return NEITHER;
            }
            boolean isTurnOfA = depth % 2 == 0;
            int wanted = isTurnOfA ? A_WINS : B_WINS;
            int best = isTurnOfA ? B_WINS : A_WINS;
            for (int on = 0; on < told.ledges && best != wanted; on++) {
                int outcome = outcomeOf(on, k, j, left - 1, depth);
                best = isTurnOfA ? Math.max(best, outcome) : Math.min(best, outcome);
            }
            return best;
        }

        /** Of ten to the number of voters, in how many k wins. */
        long partsWon(int k, int c) {
            fresh();
            return partsFrom(0, k, c, 0);
        }

        private long partsFrom(int voter, int k, int c, int depth) {
            Slope here = rows[depth];
            int left = told.voters - voter;
            if (here.winner != NONE || left <= 0 || isDeepest(depth)) {
                return here.winner == k ? tenTo(left) : 0;
            }
            long parts = 0;
            if (c > 0) {
                parts += c * partsFrom(voter + 1, k, c, depth);
            }
            if (c < OF_TEN) {
                rows[depth + 1].copyFrom(here);
                rows[depth + 1].cast(voter);
                parts += (OF_TEN - c) * partsFrom(voter + 1, k, c, depth + 1);
            }
            return parts;
        }

        int loadAfter(int seed, int n) {
            Slope row = fresh();
            long x = seed;
            for (int i = 0; i < n && told.voters > 0; i++) {
                x = (x * 1103515245L + 12345L) % 2147483648L;
                row.cast((int) (x / 65536L % told.voters));
            }
            return row.loadOfAll();
        }
    }
}
