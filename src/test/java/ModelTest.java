import java.util.ArrayList;
import java.util.List;
import java.util.Map;
import java.util.Random;
import java.util.TreeMap;

/** Runs of calls by seeds, on the class and on the model, which must answer alike (all promises). */
public final class ModelTest {
    private static final int RUNS = 1500;
    private static final int CALLS = 512;

    private final Random random;
    private final AvalancheVote real = new AvalancheVote();
    private final Model model = new Model();
    private final List<String> log = new ArrayList<>();
    private final Map<String, Integer> seen;
    private int wrong;
    private int used;

    private ModelTest(long seed, Map<String, Integer> seen) {
        this.random = new Random(seed);
        this.seen = seen;
    }

    private void due(String call, long got, long want) {
        used++;
        log.add(call + " = " + want);
        String name = call.substring(0, call.indexOf('('));
        seen.merge(name + (want < 0 && !name.equals("digest") ? " refused or none" : ""), 1, Integer::sum);
        if (got != want) {
            wrong++;
            System.out.println(String.join(", ", log) + " but it answered " + got);
        }
    }

    /** Mostly from the range, now and then beside it or far from it. */
    private int around(int least, int most) {
        int dice = random.nextInt(60);
        if (dice == 0) {
            return least - 1;
        }
        if (dice == 1) {
            return most + 1;
        }
        if (dice == 2) {
            return random.nextInt();
        }
        if (dice == 3) {
            return random.nextBoolean() ? Integer.MIN_VALUE : Integer.MAX_VALUE;
        }
        return least >= most ? least : least + random.nextInt(most - least + 1);
    }

    private int someLedge() {
        return around(0, model.m.ledges.size() - 1);
    }

    private int someVoter() {
        return around(0, model.m.voters.size() - 1);
    }

    private void ledge(int mostHolds) {
        int h = around(1, mostHolds);
        int s = around(0, Math.min(30, random.nextInt(6) == 0 ? 30 : Math.max(0, h)));
        int b = around(-1, model.m.ledges.size() - 1);
        due("ledge(" + h + ", " + s + ", " + b + ")", real.ledge(h, s, b), model.ledge(h, s, b));
    }

    private void voter() {
        int kind = around(0, 5);
        int k = someLedge();
        int s = around(1, 9);
        due("voter(" + kind + ", " + k + ", " + s + ")", real.voter(kind, k, s), model.voter(kind, k, s));
    }

    private void build() {
        int mostHolds = new int[] {3, 8, 20, 60}[random.nextInt(4)];
        int ledges = random.nextInt(9);
        for (int i = 0; i < ledges; i++) {
            ledge(mostHolds);
        }
        int voters = random.nextInt(7);
        for (int i = 0; i < voters; i++) {
            voter();
        }
    }

    private String number(int least, int most) {
        int n = random.nextInt(12) == 0 ? random.nextInt(130) : least + random.nextInt(Math.max(1, most - least + 1));
        return (n < 10 && random.nextInt(5) == 0 ? "0" : "") + (random.nextInt(60) == 0 ? "0" : "") + n;
    }

    private String blanks(boolean needed) {
        return " ".repeat(needed ? 1 + random.nextInt(8) / 7 : random.nextInt(8) / 7);
    }

    private String text() {
        StringBuilder t = new StringBuilder(blanks(false));
        t.append(random.nextInt(30) == 0 ? "" : "mountain").append(blanks(false)).append(';');
        int ledges = 0;
        int items = random.nextInt(14);
        for (int i = 0; i < items; i++) {
            boolean tight = random.nextInt(3) > 0;
            int which = i == 0 ? 0 : random.nextInt(5);
            t.append(tight ? "" : blanks(false));
            if (which < 2) {
                boolean below = ledges > 0 && random.nextBoolean();
                t.append(below ? "below" : "ledge").append(blanks(random.nextInt(9) > 0));
                t.append(number(1, 60)).append(' ').append(number(0, 30));
                t.append(below ? " " + number(0, ledges - 1) : "");
                ledges++;
            } else {
                t.append("voter").append(blanks(random.nextInt(9) > 0)).append(number(0, 5)).append(' ');
                t.append(number(0, Math.max(0, ledges - 1))).append(' ').append(number(1, 9));
            }
            t.append(tight ? "" : blanks(false)).append(';');
        }
        if (random.nextInt(4) == 0) {
            t.append(blanks(false));
        }
        if (random.nextInt(3) == 0) {
            int at = random.nextInt(t.length());
            String odd = ";;mlbv 09z\u0000{A-:/`";
            switch (random.nextInt(4)) {
                case 0 -> t.deleteCharAt(at);
                case 1 -> t.insert(at, odd.charAt(random.nextInt(odd.length())));
                case 2 -> t.setCharAt(at, odd.charAt(random.nextInt(odd.length())));
                default -> t.setLength(at);
            }
        }
        return t.toString();
    }

    private void typeAll() {
        if (random.nextInt(8) > 0) {
            due("clear()", real.clear(), model.clear());
        }
        for (char c : text().toCharArray()) {
            due("type(" + (int) c + ")", real.type(c), model.type(c));
        }
        due("read()", real.read(), model.read());
    }

    private void search() {
        int k = someLedge();
        switch (random.nextInt(6)) {
            case 0, 1 -> {
                int i = around(-1, model.m.voters.size());
                due("orders(" + k + ", " + i + ")", real.orders(k, i), model.orders(k, i));
            }
            case 2 -> {
                int what = around(0, 1);
                due("stones(" + k + ", " + what + ")", real.stones(k, what), model.stones(k, what));
            }
            case 3, 4 -> {
                int j = someLedge();
                int n = around(1, 4);
                int what = around(0, 1);
                due("parties(" + k + ", " + j + ", " + n + ", " + what + ")",
                        real.parties(k, j, n, what), model.parties(k, j, n, what));
            }
            default -> {
                int c = around(0, 10);
                due("sneeze(" + k + ", " + c + ")", real.sneeze(k, c), model.sneeze(k, c));
            }
        }
    }

    private void change() {
        switch (random.nextInt(12)) {
            case 0, 1, 2, 3, 4 -> {
                int v = someVoter();
                due("vote(" + v + ")", real.vote(v), model.vote(v));
            }
            case 5, 6 -> {
                int n = around(1, 9);
                due("night(" + n + ")", real.night(n), model.night(n));
            }
            case 7, 8 -> due("undo()", real.undo(), model.undo());
            case 9 -> {
                int v = around(0, random.nextInt(3) == 0 ? 99 : 65);
                int bore = v < 20 ? around(0, 20) / 20 ^ 1 : random.nextInt(3) / 2;
                bore = random.nextInt(40) == 0 ? around(0, 1) : bore;
                due("seen(" + v + ", " + bore + ")", real.seen(v, bore), model.seen(v, bore));
            }
            case 10 -> {
                int i = around(0, 1);
                due("image(" + i + ")", real.image(i), model.image(i));
            }
            default -> {
                int i = around(0, 1);
                due("from(" + i + ")", real.from(i), model.from(i));
            }
        }
    }

    private void ask() {
        int k = someLedge();
        int v = someVoter();
        switch (random.nextInt(16)) {
            case 0 -> { int w = around(0, 3); due("of(" + k + ", " + w + ")", real.of(k, w), model.of(k, w)); }
            case 1, 2 -> { int w = around(0, 4); due("about(" + v + ", " + w + ")", real.about(v, w), model.about(v, w)); }
            case 3 -> due("winner()", real.winner(), model.winner());
            case 4 -> due("coalition()", real.coalition(), model.coalition());
            case 5 -> { int w = around(0, 1); due("february(" + w + ")", real.february(w), model.february(w)); }
            case 6 -> { int n = around(1, 20); due("buried(" + k + ", " + n + ")", real.buried(k, n), model.buried(k, n)); }
            case 7 -> { int n = around(1, 9); due("nights(" + k + ", " + n + ")", real.nights(k, n), model.nights(k, n)); }
            case 8 -> { int w = around(0, 1); due("hold(" + w + ")", real.hold(w), model.hold(w)); }
            case 9 -> due("stick()", real.stick(), model.stick());
            case 10, 11 -> isCall(k, v);
            case 12 -> {
                int s = around(0, 999999);
                int n = around(0, 60);
                due("februaries(" + s + ", " + n + ")", real.februaries(s, n), model.februaries(s, n));
            }
            case 13 -> { int w = around(0, 1); due("part(" + w + ")", real.part(w), model.part(w)); }
            case 14 -> { int w = around(0, 2); due("status(" + w + ")", real.status(w), model.status(w)); }
            default -> { int w = around(0, 6); due("count(" + w + ")", real.count(w), model.count(w)); }
        }
    }

    private void isCall(int k, int v) {
        boolean near = v >= 0 && v < model.m.voters.size() && random.nextInt(4) > 0;
        int on = near ? model.about(v, random.nextBoolean() ? 3 : 1) : k;
        int w = near ? model.about(v, random.nextBoolean() ? 4 : 2) : around(1, 20);
        due("is(" + v + ", " + on + ", " + w + ")", real.is(v, on, w), model.is(v, on, w));
    }

    private void step() {
        int dice = random.nextInt(100);
        if (dice < 2) {
            due("mountain()", real.mountain(), model.mountain());
            build();
            search();
            search();
        } else if (dice < 4 && used < CALLS - 200) {
            typeAll();
        } else if (dice < 6) {
            ledge(20);
        } else if (dice < 8) {
            voter();
        } else if (dice < 9) {
            due("forget()", real.forget(), model.forget());
        } else if (dice < 15) {
            search();
        } else if (dice < 50) {
            change();
        } else {
            ask();
        }
    }

    private int run() {
        build();
        for (int i = 0; i < 8; i++) {
            search();
        }
        while (used < CALLS - 20 && wrong == 0) {
            step();
            due("digest()", real.digest(), model.digest());
        }
        for (int what = 0; what < 3; what++) {
            due("status(" + what + ")", real.status(what), model.status(what));
        }
        return wrong;
    }

    public static void main(String[] args) {
        int wrong = 0;
        long from = args.length > 0 ? Long.parseLong(args[0]) : 1;
        int runs = args.length > 1 ? Integer.parseInt(args[1]) : RUNS;
        Map<String, Integer> seen = new TreeMap<>();
        for (long seed = from; seed < from + runs && wrong < 5; seed++) {
            wrong += new ModelTest(seed, seen).run();
        }
        System.out.println("calls by name: " + seen);
        if (wrong != 0) {
            System.exit(1);
        }
    }
}
