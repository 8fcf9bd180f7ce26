import java.util.ArrayDeque;
import java.util.ArrayList;
import java.util.Deque;
import java.util.List;

/**
 * The document, word by word and without any haste: what AvalancheVote is compared with.
 * It shares no code with the class, searches by trying everything, and may use all of Java.
 */
final class Model {
    static final int NONE = -1, BAD = -2, NO = -3, FULL = -4;

    static final class Ledge {
        int holds, snow, stones, below;

        Ledge(int holds, int snow, int below) {
            this.holds = holds;
            this.snow = snow;
            this.below = below;
        }

        Ledge copy() {
            Ledge l = new Ledge(holds, snow, below);
            l.stones = stones;
            return l;
        }

        int load() {
            return snow + stones;
        }
    }

    record Voter(int kind, int k, int stone) { }

    record Seen(int v, int bore) { }

    record Kept(List<Ledge> ledges, int votes, int winner, int coalition) { }

    static final class Mountain {
        List<Ledge> ledges = new ArrayList<>();
        List<Voter> voters = new ArrayList<>();
        List<Seen> seen = new ArrayList<>();
        Deque<Kept> past = new ArrayDeque<>();
        int votes;
        int winner = NONE;
        int coalition;
        List<Integer> lastDown = new ArrayList<>();
        int lastBuried;

        static List<Ledge> copies(List<Ledge> from) {
            List<Ledge> to = new ArrayList<>();
            for (Ledge l : from) {
                to.add(l.copy());
            }
            return to;
        }

        Mountain copy() {
            Mountain m = new Mountain();
            m.ledges = copies(ledges);
            m.voters = new ArrayList<>(voters);
            m.seen = new ArrayList<>(seen);
            for (Kept k : past) {
                m.past.addLast(new Kept(copies(k.ledges), k.votes, k.winner, k.coalition));
            }
            m.votes = votes;
            m.winner = winner;
            m.coalition = coalition;
            return m;
        }

        int least() {
            int best = 0;
            for (int k = 0; k < ledges.size(); k++) {
                if (ledges.get(k).load() < ledges.get(best).load()) {
                    best = k;
                }
            }
            return best;
        }

        int greatest() {
            int best = 0;
            for (int k = 0; k < ledges.size(); k++) {
                if (ledges.get(k).load() > ledges.get(best).load()) {
                    best = k;
                }
            }
            return best;
        }

        static int heavy(int kind, int stone) {
            return switch (kind) {
                case 2, 5 -> 2 * stone;
                case 3 -> stone / 2 + stone % 2;
                default -> stone;
            };
        }

        int where(int kind, int k, int stone) {
            switch (kind) {
                case 1:
                case 3:
                    return ledges.get(k).load() + heavy(kind, stone) > ledges.get(k).holds ? least() : k;
                case 4:
                    return ledges.get(k).below >= 0 ? ledges.get(k).below : k;
                case 5:
                    return votes % 2 == 1 ? greatest() : k;
                default:
                    return k;
            }
        }

        int down() {
            lastDown = new ArrayList<>();
            lastBuried = 0;
            int bits = 0;
            while (true) {
                int k = 0;
                while (k < ledges.size() && ledges.get(k).load() <= ledges.get(k).holds) {
                    k++;
                }
                if (k == ledges.size()) {
                    break;
                }
                Ledge l = ledges.get(k);
                if (l.below >= 0) {
                    ledges.get(l.below).snow += l.load();
                    lastBuried |= 1 << l.below;
                }
                l.snow = 0;
                l.stones = 0;
                lastDown.add(k);
                bits |= 1 << k;
            }
            if (winner == NONE && !lastDown.isEmpty()) {
                winner = lastDown.get(0);
                coalition = bits;
            }
            return bits;
        }

        int set(int k, int stone) {
            ledges.get(k).stones += stone;
            return down();
        }

        int cast(int v) {
            Voter voter = voters.get(v);
            int bits = set(where(voter.kind, voter.k, voter.stone), heavy(voter.kind, voter.stone));
            votes++;
            return bits;
        }

        int snows(int n) {
            for (Ledge l : ledges) {
                l.snow += n;
            }
            return down();
        }

        void keep() {
            past.addLast(new Kept(copies(ledges), votes, winner, coalition));
            if (past.size() > 8) {
                past.removeFirst();
            }
        }

        int loadOfAll() {
            int sum = 0;
            for (Ledge l : ledges) {
                sum += l.load();
            }
            return sum;
        }
    }

    Mountain m = new Mountain();
    final Mountain[] images = new Mountain[2];
    final StringBuilder text = new StringBuilder();
    long above = 0;
    long below = 1;
    final int[] status = new int[3];

    private int bad(int answer) {
        status[0]++;
        return answer;
    }

    private int no() {
        status[1]++;
        return NO;
    }

    private int full() {
        status[2]++;
        return FULL;
    }

    private boolean ledgeIs(int k) {
        return k >= 0 && k < m.ledges.size();
    }

    private boolean voterIs(int v) {
        return v >= 0 && v < m.voters.size();
    }

    int mountain() {
        int had = m.ledges.size();
        m = new Mountain();
        return had;
    }

    int ledge(int holds, int snow, int below) {
        if (holds < 1 || holds > 60 || snow < 0 || snow > 30 || below < -1 || below >= m.ledges.size()) {
            return bad(BAD);
        }
        if (m.ledges.size() == 8) {
            return full();
        }
        m.ledges.add(new Ledge(holds, snow, below));
        m.past.clear();
        return m.ledges.size() - 1;
    }

    int voter(int kind, int k, int stone) {
        if (kind < 0 || kind > 5 || !ledgeIs(k) || stone < 1 || stone > 9) {
            return bad(BAD);
        }
        if (m.voters.size() == 6) {
            return full();
        }
        m.voters.add(new Voter(kind, k, stone));
        m.past.clear();
        return m.voters.size() - 1;
    }

    int type(int c) {
        if (c < 0 || c > 127) {
            return bad(BAD);
        }
        if (text.length() == 150) {
            return full();
        }
        text.append((char) c);
        return text.length();
    }

    int clear() {
        int had = text.length();
        text.setLength(0);
        return had;
    }

    record Token(int at, String word) { }

    /** All tokens; a byte that begins none is a token of its own, which stands nowhere. */
    private List<Token> tokens() {
        List<Token> all = new ArrayList<>();
        java.util.regex.Matcher found =
                java.util.regex.Pattern.compile("[a-z]+|[0-9]+|[^ ]", java.util.regex.Pattern.DOTALL).matcher(text);
        while (found.find()) {
            all.add(new Token(found.start(), found.group()));
        }
        return all;
    }

    int read() {
        Mountain told = new Mountain();
        List<Token> tokens = tokens();
        int next = 0;
        int items = 0;
        do {
            if (next == tokens.size()) {
                return -10 - text.length();
            }
            Token word = tokens.get(next++);
            boolean known = List.of("mountain", "ledge", "below", "voter").contains(word.word);
            boolean isLedge = word.word.equals("ledge") || word.word.equals("below");
            if (!known || word.word.equals("mountain") != (items == 0)
                    || isLedge && told.ledges.size() == 8
                    || word.word.equals("voter") && told.voters.size() == 6) {
                return -10 - word.at;
            }
            int there = told.ledges.size() - 1;
            int[][] ranges = switch (word.word) {
                case "ledge" -> new int[][] {{1, 60}, {0, 30}};
                case "below" -> new int[][] {{1, 60}, {0, 30}, {0, there}};
                case "voter" -> new int[][] {{0, 5}, {0, there}, {1, 9}};
                default -> new int[0][];
            };
            int[] values = new int[ranges.length];
            for (int i = 0; i < ranges.length; i++) {
                if (next == tokens.size()) {
                    return -10 - text.length();
                }
                Token number = tokens.get(next++);
                if (!number.word.matches("[0-9]{1,2}")) {
                    return -10 - number.at;
                }
                values[i] = Integer.parseInt(number.word);
                if (values[i] < ranges[i][0] || values[i] > ranges[i][1]) {
                    return -10 - number.at;
                }
            }
            if (next == tokens.size()) {
                return -10 - text.length();
            }
            Token end = tokens.get(next++);
            if (!end.word.equals(";")) {
                return -10 - end.at;
            }
            if (isLedge) {
                told.ledges.add(new Ledge(values[0], values[1], values.length == 3 ? values[2] : NONE));
            } else if (word.word.equals("voter")) {
                told.voters.add(new Voter(values[0], values[1], values[2]));
            }
            items++;
        } while (next < tokens.size());
        m = told;
        return items;
    }

    int vote(int voter) {
        if (!voterIs(voter)) {
            return bad(BAD);
        }
        m.keep();
        return m.cast(voter);
    }

    int night(int n) {
        if (n < 1 || n > 9) {
            return bad(BAD);
        }
        m.keep();
        return m.snows(n);
    }

    int undo() {
        if (m.past.isEmpty()) {
            return no();
        }
        Kept k = m.past.removeLast();
        m.ledges = k.ledges;
        m.votes = k.votes;
        m.winner = k.winner;
        m.coalition = k.coalition;
        return m.votes;
    }

    int of(int k, int what) {
        if (!ledgeIs(k) || what < 0 || what > 3) {
            return bad(-10);
        }
        Ledge l = m.ledges.get(k);
        return new int[] {l.holds, l.snow, l.stones, l.below}[what];
    }

    int about(int voter, int what) {
        if (!voterIs(voter) || what < 0 || what > 4) {
            return bad(BAD);
        }
        Voter v = m.voters.get(voter);
        return new int[] {v.kind, v.k, v.stone, m.where(v.kind, v.k, v.stone), Mountain.heavy(v.kind, v.stone)}[what];
    }

    int winner() {
        return m.winner;
    }

    int coalition() {
        return m.coalition;
    }

    int february(int what) {
        if (what < 0 || what > 1) {
            return bad(BAD);
        }
        Mountain then = m.copy();
        for (int v = 0; v < then.voters.size(); v++) {
            then.cast(v);
        }
        return what == 0 ? then.winner : then.coalition;
    }

    private static void permute(List<Integer> begun, int n, List<List<Integer>> all) {
        if (begun.size() == n) {
            all.add(new ArrayList<>(begun));
            return;
        }
        for (int v = 0; v < n; v++) {
            if (!begun.contains(v)) {
                begun.add(v);
                permute(begun, n, all);
                begun.remove(begun.size() - 1);
            }
        }
    }

    int orders(int k, int i) {
        if (!ledgeIs(k) || i < -1) {
            return bad(-10);
        }
        if (m.winner != NONE) {
            return no();
        }
        List<List<Integer>> all = new ArrayList<>();
        permute(new ArrayList<>(), m.voters.size(), all);
        int how = 0;
        List<Integer> first = null;
        for (List<Integer> order : all) {
            Mountain then = m.copy();
            for (int v : order) {
                then.cast(v);
            }
            if (then.winner == k) {
                how++;
                first = first == null ? order : first;
            }
        }
        if (i == NONE) {
            return how;
        }
        if (first == null) {
            return NONE;
        }
        return i < first.size() ? first.get(i) : -5;
    }

    private static boolean comesDown(Mountain from, int k, int left) {
        for (int on = 0; on < from.ledges.size(); on++) {
            Mountain then = from.copy();
            boolean fell = (then.set(on, 1) >> k & 1) == 1;
            if (left == 1 ? fell : comesDown(then, k, left - 1)) {
                return true;
            }
        }
        return false;
    }

    int stones(int k, int what) {
        if (!ledgeIs(k) || what < 0 || what > 1) {
            return bad(BAD);
        }
        Mountain bare = m.copy();
        bare.past.clear();
        for (int n = 1; n <= 5; n++) {
            for (int on = 0; on < bare.ledges.size(); on++) {
                Mountain then = bare.copy();
                boolean fell = (then.set(on, 1) >> k & 1) == 1;
                if (n == 1 ? fell : comesDown(then, k, n - 1)) {
                    return what == 0 ? n : on;
                }
            }
        }
        return NONE;
    }

    int buried(int k, int n) {
        if (!ledgeIs(k) || n < 1 || n > 20) {
            return bad(BAD);
        }
        Mountain then = m.copy();
        then.set(k, n);
        return then.lastBuried;
    }

    int nights(int k, int n) {
        if (!ledgeIs(k) || n < 1 || n > 9) {
            return bad(BAD);
        }
        Mountain then = m.copy();
        for (int night = 1; night <= 60; night++) {
            if ((then.snows(n) >> k & 1) == 1) {
                return night;
            }
        }
        return NONE;
    }

    private static int value(Mountain from, int on, int k, int j, int left, boolean byA) {
        Mountain then = from.copy();
        then.set(on, 1);
        int kAt = then.lastDown.indexOf(k);
        int jAt = then.lastDown.indexOf(j);
        if (kAt >= 0 && (jAt < 0 || kAt < jAt)) {
            return 2;
        }
        if (jAt >= 0) {
            return 0;
        }
        if (left == 1) {
            return 1;
        }
        int best = byA ? 2 : 0;
        for (int next = 0; next < then.ledges.size(); next++) {
            int v = value(then, next, k, j, left - 1, !byA);
            best = byA ? Math.min(best, v) : Math.max(best, v);
        }
        return best;
    }

    int parties(int k, int j, int n, int what) {
        if (!ledgeIs(k) || !ledgeIs(j) || k == j || n < 1 || n > 4 || what < 0 || what > 1) {
            return bad(-10);
        }
        Mountain bare = m.copy();
        bare.past.clear();
        int best = -1;
        int first = -1;
        for (int on = 0; on < bare.ledges.size(); on++) {
            int v = value(bare, on, k, j, n, true);
            if (v > best) {
                best = v;
                first = on;
            }
        }
        return what == 0 ? best : first;
    }

    int seen(int v, int bore) {
        if (v < 0 || v > 99 || bore < 0 || bore > 1) {
            return bad(BAD);
        }
        if (m.seen.size() == 6) {
            return full();
        }
        m.seen.add(new Seen(v, bore));
        return m.seen.size();
    }

    int forget() {
        int had = m.seen.size();
        m.seen.clear();
        return had;
    }

    private List<Integer> holding() {
        List<Integer> all = new ArrayList<>();
        for (int h = 1; h <= 60; h++) {
            boolean so = true;
            for (Seen s : m.seen) {
                so &= (s.v > h) == (s.bore == 0);
            }
            if (so) {
                all.add(h);
            }
        }
        return all;
    }

    int hold(int what) {
        if (what < 0 || what > 1) {
            return bad(-10);
        }
        List<Integer> all = holding();
        return what == 0 ? all.size() : all.isEmpty() ? NONE : all.get(0);
    }

    int stick() {
        List<Integer> all = holding();
        if (all.isEmpty()) {
            return NONE;
        }
        int best = NONE;
        long least = Long.MAX_VALUE;
        for (int v = 0; v <= 60; v++) {
            final int load = v;
            long bore = all.stream().filter(h -> load <= h).count();
            long part = Math.max(bore, all.size() - bore);
            if (part < least) {
                least = part;
                best = v;
            }
        }
        return best;
    }

    int is(int voter, int k, int w) {
        if (!voterIs(voter) || !ledgeIs(k) || w < 1 || w > 20) {
            return bad(BAD);
        }
        Voter v = m.voters.get(voter);
        int bits = 0;
        for (int kind = 0; kind <= 5; kind++) {
            if (m.where(kind, v.k, v.stone) == k && Mountain.heavy(kind, v.stone) == w) {
                bits |= 1 << kind;
            }
        }
        return bits;
    }

    int sneeze(int k, int c) {
        if (!ledgeIs(k) || c < 0 || c > 10) {
            return bad(BAD);
        }
        int n = m.voters.size();
        long sum = 0;
        long all = 1;
        for (int v = 0; v < n; v++) {
            all *= 10;
        }
        for (int sneezing = 0; sneezing < 1 << n; sneezing++) {
            Mountain then = m.copy();
            long weight = 1;
            for (int v = 0; v < n; v++) {
                if ((sneezing >> v & 1) == 1) {
                    weight *= c;
                } else {
                    weight *= 10 - c;
                    then.cast(v);
                }
            }
            sum += then.winner == k ? weight : 0;
        }
        java.math.BigInteger common = java.math.BigInteger.valueOf(sum).gcd(java.math.BigInteger.valueOf(all));
        above = sum / common.longValue();
        below = all / common.longValue();
        return 1;
    }

    int februaries(int seed, int n) {
        if (seed < 0 || seed > 999999 || n < 0 || n > 60) {
            return bad(BAD);
        }
        if (m.voters.isEmpty() || m.ledges.isEmpty()) {
            return no();
        }
        Mountain then = m.copy();
        long x = seed;
        for (int i = 0; i < n; i++) {
            x = (x * 1103515245L + 12345L) % 2147483648L;
            then.cast((int) (x / 65536 % then.voters.size()));
        }
        return then.loadOfAll();
    }

    long part(int what) {
        if (what < 0 || what > 1) {
            return bad(BAD);
        }
        return what == 0 ? above : below;
    }

    int image(int i) {
        if (i < 0 || i > 1) {
            return bad(BAD);
        }
        images[i] = m.copy();
        return 1;
    }

    int from(int i) {
        if (i < 0 || i > 1) {
            return bad(BAD);
        }
        if (images[i] == null) {
            return no();
        }
        m = images[i].copy();
        return 1;
    }

    int status(int what) {
        return what < 0 || what > 2 ? bad(-1) : status[what];
    }

    private int[] counts() {
        return new int[] {
            m.ledges.size(), m.voters.size(), m.votes, m.loadOfAll(), m.seen.size(), m.past.size(), text.length()
        };
    }

    int count(int what) {
        return what < 0 || what > 6 ? bad(BAD) : counts()[what];
    }

    long digest() {
        List<Long> values = new ArrayList<>();
        for (int c : counts()) {
            values.add((long) c);
        }
        values.add((long) m.winner);
        values.add((long) m.coalition);
        for (Ledge l : m.ledges) {
            values.addAll(List.of((long) l.holds, (long) l.snow, (long) l.stones, (long) l.below));
        }
        for (Voter v : m.voters) {
            values.addAll(List.of((long) v.kind, (long) v.k, (long) v.stone));
        }
        for (Seen s : m.seen) {
            values.addAll(List.of((long) s.v, (long) s.bore));
        }
        values.addAll(List.of(above, below));
        long h = 1151;
        for (long v : values) {
            h = 31 * h + v;
        }
        return h;
    }
}
