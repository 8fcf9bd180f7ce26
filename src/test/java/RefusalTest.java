import java.util.ArrayList;
import java.util.List;
import java.util.function.Supplier;

/**
 * Every number of every call: the last that is taken and the first that is refused, on both sides, and the farthest.
 * A refused call is made on one of two like objects, which must be alike behind it in all but STATUS.
 */
public final class RefusalTest {
    private static final int BAD = -2, NO = -3, FULL = -4, BAD_TEN = -10, BAD_STATUS = -1;
    private static final int REASON_BAD = 0, REASON_NO = 1, REASON_FULL = 2;
    private static final int[] ANY = null;
    private static final int NO_END = Integer.MAX_VALUE;

    /** A call with numbers that are as told, and for each of them the least and the most (ANY: not looked at here). */
    private record Call(int promise, String name, int bad, int[] numbers, int[]... ranges) { }

    private static String place;
    private static Supplier<Run> maker;

    public static void main(String[] args) {
        Run.sentence(0, "the objects that are refused are as this test wants them");
        small().counts(3, 2, 1, 24, 2, 2, 43).due(-1, "winner").due(1, "status", 0);
        full().counts(8, 6, 9).due(6, "count", 4).due(8, "count", 5).due(150, "count", 6).due(5, "winner");
        place = "nothing told";
        maker = RefusalTest::empty;
        onNothing();
        place = "three ledges, two voters";
        maker = RefusalTest::small;
        onSmall();
        place = "all full, a winner";
        maker = RefusalTest::full;
        onFull();
        Run.finish();
    }

    private static Run empty() {
        return new Run();
    }

    /** Something of everything, and room for more of it. */
    private static Run small() {
        Run r = new Run().typed("mountain;ledge 7 1;below 9 2 0;voter 1 1 3;");
        r.then("ledge", 20, 4, -1).then("ledge", 30, 5, 0).then("ledge", 40, 6, 1);
        r.then("voter", 0, 2, 3).then("voter", 5, 1, 2).then("seen", 10, 1).then("seen", 50, 0);
        r.then("vote", 0).then("image", 0).then("night", 2).then("image", 1).then("vote", 1);
        return r.then("sneeze", 0, 3).then("vote", 9).then("undo");
    }

    private static final String FULL_TEXT =
            "mountain;" + "ledge9 0;".repeat(8) + "voter0 7 1;".repeat(5) + "voter5 0 9;" + "   ";

    /** Nothing more has room: ledges, voters, seen, bytes, what may be undone; and there is a winner. */
    private static Run full() {
        Run r = new Run().typed(FULL_TEXT);
        for (int k = 0; k < 8; k++) {
            r.then("ledge", 9 + k, k, k - 1);
        }
        for (int v = 0; v < 6; v++) {
            r.then("voter", v, 7 - v, v + 2).then("seen", v < 3 ? v : 60 - v, v < 3 ? 1 : 0);
        }
        r.then("image", 0).then("night", 1).then("image", 1).then("sneeze", 3, 1);
        for (int i = 0; i < 9; i++) {
            r.then("vote", i % 6);
        }
        return r;
    }

    private static int[] from(int least, int most) {
        return new int[] {least, most};
    }

    private static int[] with(int... numbers) {
        return numbers;
    }

    // ---- what there is, and how far the numbers go there

    private static void onNothing() {
        for (Call c : List.of(
                new Call(3, "ledge", BAD, with(5, 0, -1), from(1, 60), from(0, 30), from(-1, -1)),
                new Call(5, "type", BAD, with(97), from(0, 127)),
                new Call(9, "night", BAD, with(1), from(1, 9)),
                new Call(15, "february", BAD, with(0), from(0, 1)),
                new Call(21, "seen", BAD, with(0, 0), from(0, 99), from(0, 1)),
                new Call(23, "hold", BAD_TEN, with(0), from(0, 1)),
                new Call(28, "part", BAD, with(0), from(0, 1)),
                new Call(29, "image", BAD, with(0), from(0, 1)),
                new Call(31, "status", BAD_STATUS, with(0), from(0, 2)),
                new Call(32, "count", BAD, with(0), from(0, 6)))) {
            beyond(c);
            taken(c);
        }
        for (Call c : List.of(
                new Call(27, "februaries", BAD, with(0, 0), from(0, 999999), from(0, 60)),
                new Call(30, "from", BAD, with(0), from(0, 1)))) {
            beyond(c);
            within(c, NO, REASON_NO);
        }
        within(new Call(10, "undo", BAD, with()), NO, REASON_NO);
        for (int k : new int[] {-1, 0, 1, Integer.MIN_VALUE, Integer.MAX_VALUE}) {
            refused(4, BAD, REASON_BAD, "voter", 0, k, 1);
            refused(8, BAD, REASON_BAD, "vote", k);
            refused(11, BAD_TEN, REASON_BAD, "of", k, 0);
            refused(12, BAD, REASON_BAD, "about", k, 0);
            refused(16, BAD_TEN, REASON_BAD, "orders", k, -1);
            refused(17, BAD, REASON_BAD, "stones", k, 0);
            refused(18, BAD, REASON_BAD, "buried", k, 1);
            refused(19, BAD, REASON_BAD, "nights", k, 1);
            refused(20, BAD_TEN, REASON_BAD, "parties", k, k == 0 ? 1 : 0, 1, 0);
            refused(25, BAD, REASON_BAD, "is", 0, k, 1);
            refused(26, BAD, REASON_BAD, "sneeze", k, 0);
        }
        asks("winner", "coalition", "stick", "digest", "mountain", "clear", "forget");
    }

    private static void onSmall() {
        for (Call c : List.of(
                new Call(3, "ledge", BAD, with(5, 0, -1), from(1, 60), from(0, 30), from(-1, 2)),
                new Call(4, "voter", BAD, with(0, 0, 1), from(0, 5), from(0, 2), from(1, 9)),
                new Call(5, "type", BAD, with(97), from(0, 127)),
                new Call(21, "seen", BAD, with(0, 0), from(0, 99), from(0, 1)),
                new Call(27, "februaries", BAD, with(0, 0), from(0, 999999), from(0, 60)))) {
            beyond(c);
            taken(c);
        }
        Call orders = new Call(16, "orders", BAD_TEN, with(0, -1), from(0, 2), from(-1, NO_END));
        beyond(orders);
        taken(orders);
        for (Call c : ofLedgesAndVoters(2, 1)) {
            beyond(c);
            taken(c);
        }
        alike(2);
        asks("winner", "coalition", "stick", "digest");
    }

    private static void onFull() {
        for (Call c : List.of(
                new Call(3, "ledge", BAD, with(5, 0, -1), from(1, 60), from(0, 30), from(-1, 7)),
                new Call(4, "voter", BAD, with(0, 0, 1), from(0, 5), from(0, 7), from(1, 9)),
                new Call(5, "type", BAD, with(97), from(0, 127)),
                new Call(21, "seen", BAD, with(0, 0), from(0, 99), from(0, 1)))) {
            beyond(c);
            within(c, FULL, REASON_FULL);
        }
        Call orders = new Call(16, "orders", BAD_TEN, with(0, -1), from(0, 7), from(-1, NO_END));
        beyond(orders);
        within(orders, NO, REASON_NO);
        for (Call c : ofLedgesAndVoters(7, 5)) {
            beyond(c);
            taken(c);
        }
        alike(7);
        asks("winner", "coalition", "stick", "digest");
    }

    private static List<Call> ofLedgesAndVoters(int ledge, int voter) {
        return List.of(
                new Call(8, "vote", BAD, with(0), from(0, voter)),
                new Call(9, "night", BAD, with(1), from(1, 9)),
                new Call(11, "of", BAD_TEN, with(0, 0), from(0, ledge), from(0, 3)),
                new Call(12, "about", BAD, with(0, 0), from(0, voter), from(0, 4)),
                new Call(15, "february", BAD, with(0), from(0, 1)),
                new Call(17, "stones", BAD, with(0, 0), from(0, ledge), from(0, 1)),
                new Call(18, "buried", BAD, with(0, 1), from(0, ledge), from(1, 20)),
                new Call(19, "nights", BAD, with(0, 1), from(0, ledge), from(1, 9)),
                new Call(20, "parties", BAD_TEN, with(1, 1, 1, 0), from(0, ledge), from(0, ledge), ANY, ANY),
                new Call(20, "parties", BAD_TEN, with(0, 1, 1, 0), ANY, ANY, from(1, 4), from(0, 1)),
                new Call(23, "hold", BAD_TEN, with(0), from(0, 1)),
                new Call(25, "is", BAD, with(0, 0, 1), from(0, voter), from(0, ledge), from(1, 20)),
                new Call(26, "sneeze", BAD, with(0, 0), from(0, ledge), from(0, 10)),
                new Call(28, "part", BAD, with(0), from(0, 1)),
                new Call(29, "image", BAD, with(0), from(0, 1)),
                new Call(30, "from", BAD, with(0), from(0, 1)),
                new Call(31, "status", BAD_STATUS, with(0), from(0, 2)),
                new Call(32, "count", BAD, with(0), from(0, 6)));
    }

    private static void alike(int ledge) {
        for (int k : new int[] {0, 1, ledge}) {
            refused(20, BAD_TEN, REASON_BAD, "parties", k, k, 1, 0);
            refused(20, BAD_TEN, REASON_BAD, "parties", k, k, 4, 1);
        }
    }

    // ---- what is looked at

    /** Beside each range and farthest from it, the other numbers being as told. */
    private static void beyond(Call c) {
        for (int p = 0; p < c.ranges.length; p++) {
            if (c.ranges[p] == ANY) {
                continue;
            }
            int least = c.ranges[p][0];
            int most = c.ranges[p][1];
            for (int wrong : new int[] {least - 1, least - 2, Integer.MIN_VALUE}) {
                refused(c.promise, c.bad, REASON_BAD, c.name, put(c.numbers, p, wrong));
            }
            if (most != NO_END) {
                for (int wrong : new int[] {most + 1, most + 2, Integer.MAX_VALUE}) {
                    refused(c.promise, c.bad, REASON_BAD, c.name, put(c.numbers, p, wrong));
                }
            }
        }
    }

    private static List<int[]> ends(Call c) {
        List<int[]> all = new ArrayList<>();
        for (int p = 0; p < c.ranges.length; p++) {
            if (c.ranges[p] != ANY) {
                all.add(put(c.numbers, p, c.ranges[p][0]));
                all.add(put(c.numbers, p, c.ranges[p][1]));
            }
        }
        if (all.isEmpty()) {
            all.add(c.numbers);
        }
        return all;
    }

    /** Both ends of each range are as told: refused, but for another reason. */
    private static void within(Call c, int answer, int reason) {
        for (int[] numbers : ends(c)) {
            refused(c.promise, answer, reason, c.name, numbers);
        }
    }

    /** Both ends of each range are taken: no reason has one more. */
    private static void taken(Call c) {
        for (int[] numbers : ends(c)) {
            Run.sentence(c.promise, Run.text(c.name, numbers) + " is taken, on: " + place);
            Run x = maker.get();
            int[] before = reasons(x);
            x.call(c.name, numbers);
            sameReasons(before, reasons(x));
        }
    }

    /** Nothing is refused, and what only asks changes nothing. */
    private static void asks(String... names) {
        for (String name : names) {
            Run.sentence(0, Run.text(name) + " is never refused, on: " + place);
            Run x = maker.get();
            int[] before = reasons(x);
            x.call(name);
            sameReasons(before, reasons(x));
            alikeBut(x, maker.get());
        }
    }

    private static void refused(int promise, int answer, int reason, String name, int... numbers) {
        Run.sentence(promise, Run.text(name, numbers) + " is refused and changes nothing but STATUS, on: " + place);
        Run x = maker.get();
        int[] due = reasons(x);
        due[reason]++;
        x.due(answer, name, numbers);
        sameReasons(due, reasons(x));
        alikeBut(x, maker.get());
    }

    private static int[] put(int[] numbers, int p, int value) {
        int[] all = numbers.clone();
        all[p] = value;
        return all;
    }

    private static int[] reasons(Run x) {
        return new int[] {(int) x.call("status", 0), (int) x.call("status", 1), (int) x.call("status", 2)};
    }

    private static void sameReasons(int[] due, int[] got) {
        for (int reason = 0; reason < 3; reason++) {
            if (due[reason] != got[reason]) {
                Run.fail("status(" + reason + ") is " + got[reason] + ", due is " + due[reason]);
            }
        }
    }

    private static void alikeBut(Run x, Run y) {
        List<String> got = all(x);
        List<String> due = all(y);
        if (!got.equals(due)) {
            Run.fail("behind it there is " + got + ", due is " + due);
        }
    }

    /** All that can be asked, then what may be undone, what the images keep, and what the text tells. */
    private static List<String> all(Run x) {
        List<String> seen = new ArrayList<>();
        long ledges = now(x, seen);
        if (ledges > 0) {
            seen.add("stones " + x.call("stones", 0, 0) + " orders " + x.call("orders", 0, -1));
        }
        back(x, seen);
        for (int i = 0; i < 2; i++) {
            seen.add("from " + x.call("from", i));
            back(x, seen);
        }
        seen.add("read " + x.call("read") + " digest " + x.call("digest"));
        return seen;
    }

    private static long now(Run x, List<String> seen) {
        long ledges = x.call("count", 0);
        for (int k = 0; k < ledges; k++) {
            seen.add("ledge " + x.call("of", k, 0) + " " + x.call("of", k, 1) + " " + x.call("of", k, 2)
                    + " " + x.call("of", k, 3));
        }
        long voters = x.call("count", 1);
        for (int v = 0; v < voters; v++) {
            seen.add("voter " + x.call("about", v, 0) + " " + x.call("about", v, 3) + " " + x.call("about", v, 4));
        }
        seen.add("winner " + x.call("winner") + " " + x.call("coalition") + " text " + x.call("count", 6));
        seen.add("fraction " + x.call("part", 0) + " " + x.call("part", 1) + " hold " + x.call("hold", 0));
        return ledges;
    }

    private static void back(Run x, List<String> seen) {
        seen.add("digest " + x.call("digest"));
        for (int i = 0; i < 9; i++) {
            seen.add("undo " + x.call("undo") + " digest " + x.call("digest"));
        }
    }
}
