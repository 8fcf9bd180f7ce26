/** Each promise by itself: ordinary inputs, the edges that the document names, wrong inputs. */
public final class PromiseTest {
    private static final int NONE = AvalancheVote.NONE, BAD = AvalancheVote.BAD;
    private static final int NO = AvalancheVote.NO, FULL = AvalancheVote.FULL;

    private static int wrong = 0;
    private static int promise = 0;

    private static void due(String call, long got, long want) {
        if (got != want) {
            wrong++;
            System.out.println("promise " + promise + ": " + call + " answered " + got + ", due is " + want);
        }
    }

    private static void status(AvalancheVote x, int bad, int no, int full) {
        due("status(0)", x.status(0), bad);
        due("status(1)", x.status(1), no);
        due("status(2)", x.status(2), full);
    }

    private static AvalancheVote told(String text) {
        AvalancheVote x = new AvalancheVote();
        typeAll(x, text);
        if (x.read() < 0) {
            due("read() of " + text, 0, 1);
        }
        return x;
    }

    private static void typeAll(AvalancheVote x, String text) {
        x.clear();
        for (char c : text.toCharArray()) {
            x.type(c);
        }
    }

    public static void main(String[] args) {
        promise1NewObject();
        promise2Mountain();
        promise3Ledge();
        promise4Voter();
        promise5Type();
        promise6Clear();
        promise7Read();
        promise7Faults();
        promise8Vote();
        promise8Kinds();
        promise9Night();
        promise10Undo();
        promise11Of();
        promise12About();
        promise13Winner();
        promise14Coalition();
        promise15February();
        promise16Orders();
        promise17Stones();
        promise18Buried();
        promise19Nights();
        promise20Parties();
        promise21Seen();
        promise22Forget();
        promise23Hold();
        promise24Stick();
        promise25Is();
        promise26Sneeze();
        promise27Februaries();
        promise28Part();
        promise29Image();
        promise30From();
        promise31Status();
        promise32Count();
        promise33Digest();
        System.out.println(wrong == 0 ? "all promises are kept" : wrong + " answers are not as due");
        if (wrong != 0) {
            System.exit(1);
        }
    }

    private static void promise1NewObject() {
        promise = 1;
        AvalancheVote x = new AvalancheVote();
        for (int what = 0; what <= 6; what++) {
            due("count(" + what + ")", x.count(what), 0);
        }
        due("winner()", x.winner(), NONE);
        due("coalition()", x.coalition(), 0);
        due("part(0)", x.part(0), 0);
        due("part(1)", x.part(1), 1);
        due("from(0)", x.from(0), NO);
        due("from(1)", x.from(1), NO);
        status(x, 0, 2, 0);
        due("NONE", AvalancheVote.NONE, -1);
        due("BAD", AvalancheVote.BAD, -2);
        due("NO", AvalancheVote.NO, -3);
        due("FULL", AvalancheVote.FULL, -4);
    }

    private static void promise2Mountain() {
        promise = 2;
        AvalancheVote x = new AvalancheVote();
        due("mountain()", x.mountain(), 0);
        x.ledge(5, 4, -1);
        x.ledge(60, 0, 0);
        x.voter(0, 0, 2);
        x.seen(3, 1);
        x.type('m');
        x.vote(0);
        x.sneeze(0, 0);
        x.image(1);
        x.vote(7);
        due("mountain()", x.mountain(), 2);
        for (int what = 0; what <= 5; what++) {
            due("count(" + what + ")", x.count(what), 0);
        }
        due("count(6): the text stays", x.count(6), 1);
        due("winner()", x.winner(), NONE);
        due("coalition()", x.coalition(), 0);
        due("undo()", x.undo(), NO);
        due("part(0): the fraction stays", x.part(0), 1);
        status(x, 1, 1, 0);
        due("from(1): images stay", x.from(1), 1);
        due("winner()", x.winner(), 0);
        due("mountain()", x.mountain(), 2);
        due("ledges begin at 0 again", x.ledge(1, 0, -1), 0);
    }

    private static void promise3Ledge() {
        promise = 3;
        AvalancheVote x = new AvalancheVote();
        int[][] refused = {
            {0, 0, -1}, {61, 0, -1}, {-1, 0, -1}, {1, -1, -1}, {1, 31, -1}, {1, 0, 0}, {1, 0, -2},
            {Integer.MAX_VALUE, 0, -1}, {1, Integer.MIN_VALUE, -1}, {1, 0, Integer.MAX_VALUE}
        };
        for (int[] r : refused) {
            due("ledge(" + r[0] + ", " + r[1] + ", " + r[2] + ")", x.ledge(r[0], r[1], r[2]), BAD);
        }
        due("count(0)", x.count(0), 0);
        due("ledge(1, 30, -1)", x.ledge(1, 30, -1), 0);
        due("ledge(60, 0, 0)", x.ledge(60, 0, 0), 1);
        due("ledge(1, 0, 2)", x.ledge(1, 0, 2), BAD);
        for (int k = 2; k < 8; k++) {
            due("ledge(" + k + ")", x.ledge(10, k, k - 1), k);
        }
        due("ledge(10, 0, 8): a wrong number goes ahead of FULL", x.ledge(10, 0, 8), BAD);
        due("ledge(10, 0, 7)", x.ledge(10, 0, 7), FULL);
        due("count(0)", x.count(0), 8);
        due("a ledge with too much snow does not come down yet", x.of(0, 1), 30);
        status(x, refused.length + 2, 0, 1);
    }

    private static void promise4Voter() {
        promise = 4;
        AvalancheVote x = new AvalancheVote();
        due("voter(0, 0, 1) without a ledge", x.voter(0, 0, 1), BAD);
        x.ledge(60, 0, -1);
        int[][] refused = {{-1, 0, 1}, {6, 0, 1}, {0, -1, 1}, {0, 1, 1}, {0, 0, 0}, {0, 0, 10}, {0, Integer.MIN_VALUE, 1}};
        for (int[] r : refused) {
            due("voter(" + r[0] + ", " + r[1] + ", " + r[2] + ")", x.voter(r[0], r[1], r[2]), BAD);
        }
        for (int v = 0; v < 6; v++) {
            due("voter(" + v + ", 0, " + (v + 4) + ")", x.voter(v, 0, v + 4), v);
        }
        due("voter(9, 0, 1)", x.voter(9, 0, 1), BAD);
        due("voter(0, 0, 1)", x.voter(0, 0, 1), FULL);
        due("count(1)", x.count(1), 6);
        status(x, refused.length + 2, 0, 1);
    }

    private static void promise5Type() {
        promise = 5;
        AvalancheVote x = new AvalancheVote();
        due("type(-1)", x.type(-1), BAD);
        due("type(128)", x.type(128), BAD);
        for (int i = 1; i <= 150; i++) {
            due("type", x.type(i % 2 == 0 ? 0 : 127), i);
        }
        due("type(97)", x.type(97), FULL);
        due("type(128)", x.type(128), BAD);
        due("count(6)", x.count(6), 150);
        status(x, 3, 0, 1);
    }

    private static void promise6Clear() {
        promise = 6;
        AvalancheVote x = new AvalancheVote();
        due("clear()", x.clear(), 0);
        x.type(1);
        x.type(2);
        due("clear()", x.clear(), 2);
        due("count(6)", x.count(6), 0);
        due("clear()", x.clear(), 0);
        typeAll(x, "mountain;");
        x.clear();
        due("read() of nothing", x.read(), -10);
    }

    private static void promise7Read() {
        promise = 7;
        AvalancheVote x = new AvalancheVote();
        x.ledge(5, 5, -1);
        x.voter(0, 0, 1);
        x.vote(0);
        x.seen(4, 1);
        x.image(0);
        x.sneeze(0, 0);
        typeAll(x, "mountain;ledge 12 5;below 06 30 0;voter 5 1 9;");
        due("read()", x.read(), 4);
        due("count(0)", x.count(0), 2);
        due("count(1)", x.count(1), 1);
        due("count(2)", x.count(2), 0);
        due("count(3): nothing comes down by being told", x.count(3), 35);
        due("count(4)", x.count(4), 0);
        due("count(5)", x.count(5), 0);
        due("count(6)", x.count(6), 46);
        due("winner()", x.winner(), NONE);
        due("coalition()", x.coalition(), 0);
        due("of(1, 0)", x.of(1, 0), 6);
        due("of(0, 3)", x.of(0, 3), NONE);
        due("of(1, 3)", x.of(1, 3), 0);
        due("about(0, 0)", x.about(0, 0), 5);
        due("about(0, 1)", x.about(0, 1), 1);
        due("about(0, 2)", x.about(0, 2), 9);
        due("part(0): the fraction stays", x.part(0), 1);
        due("read() again", x.read(), 4);
        due("from(0)", x.from(0), 1);
        due("count(4)", x.count(4), 1);
        due("undo()", x.undo(), 0);

        AvalancheVote y = told("  mountain  ;ledge5 3;voter0 0 1  ; ");
        due("blanks may be left out or be many", y.count(0) * 10 + y.count(1), 11);
        due("mountain alone", told("mountain;").count(0), 0);
        AvalancheVote z = full();
        typeAll(z, "mountain;ledge 1 0;fault");
        due("a fault", z.read(), -29);
        due("count(0) stays", z.count(0), 8);
        typeAll(z, "mountain;ledge 1 0;");
        due("nothing is left of what was read before", z.read(), 2);
        due("count(0)", z.count(0), 1);
        due("count(1)", z.count(1), 0);
        due("eight ledges, six voters: count(0)", full().count(0), 8);
        due("eight ledges, six voters: count(1)", full().count(1), 6);
    }

    private static AvalancheVote full() {
        return told("mountain;" + "ledge9 0;".repeat(8) + "voter0 7 1;".repeat(5) + "voter5 0 9;");
    }

    private static void fault(String text, int place) {
        AvalancheVote x = new AvalancheVote();
        x.ledge(7, 2, -1);
        x.voter(2, 0, 1);
        x.vote(0);
        x.seen(9, 0);
        typeAll(x, text);
        long before = x.digest();
        due("read() of '" + text + "'", x.read(), -10 - place);
        due("digest(): all stays behind '" + text + "'", x.digest(), before);
        status(x, 0, 0, 0);
    }

    private static void promise7Faults() {
        promise = 7;
        fault("", 0);
        fault("   ", 3);
        fault("mountain", 8);
        fault("mountain ", 9);
        fault("mount;", 0);
        fault("mountains;", 0);
        fault("Mountain;", 0);
        fault("mountainX", 8);
        fault(" ;mountain;", 1);
        fault("5;", 0);
        fault("ledge 1 0;mountain;", 0);
        fault("mountain;mountain;", 9);
        fault("mountain; mountain", 10);
        fault("mountain;;", 9);
        fault("mountain 5;", 9);
        fault("mountain ledge 5 0;", 9);
        fault("mountain;valley 5 0;", 9);
        fault("mountain;led", 9);
        fault("mountain;ledge", 14);
        fault("mountain;ledge;", 14);
        fault("mountain;ledge 5", 16);
        fault("mountain;ledge 5;", 16);
        fault("mountain;ledge 5 0", 18);
        fault("mountain;ledge 5 0 ", 19);
        fault("mountain;ledge 5 0 0;", 19);
        fault("mountain;ledge 5 0 voter", 19);
        fault("mountain;ledge x 0;", 15);
        fault("mountain;ledge 0 0;", 15);
        fault("mountain;ledge 61 0;", 15);
        fault("mountain;ledge 60 31;", 18);
        fault("mountain;ledge 007 0;", 15);
        fault("mountain;ledge 123 0;", 15);
        fault("mountain;ledge 5 012;", 17);
        fault("mountain;ledge 5 000", 17);
        fault("mountain;ledge -5 0;", 15);
        fault("mountain;ledge 5\t0;", 16);
        fault("mountain;ledge 5 0:", 18);
        fault("mountain;below 5 0 0;", 19);
        fault("mountain;ledge 5 0;below 5 0 1;", 29);
        fault("mountain;ledge 5 0;below 5 0;", 28);
        fault("mountain;voter 0 0 1;", 17);
        fault("mountain;ledge 5 0;voter 6 0 1;", 25);
        fault("mountain;ledge 5 0;voter 0 1 1;", 27);
        fault("mountain;ledge 5 0;voter 0 0 0;", 29);
        fault("mountain;ledge 5 0;voter 0 0 10;", 29);
        fault("mountain;ledge 5 0;voter 0 0", 28);
        fault("mountain;" + "ledge 5 0;".repeat(8) + "ledge", 89);
        fault("mountain;" + "ledge 5 0;".repeat(8) + "  below 1", 91);
        fault("mountain;ledge 5 0;" + "voter 0 0 1;".repeat(6) + "voter 9", 91);
        fault("mountain;" + (char) 0, 9);
        fault("mountain;" + (char) 127, 9);
        fault("mountain;{", 9);
        fault("mountain;`", 9);
        fault("mountain;ledge /", 15);
    }

    private static void promise8Vote() {
        promise = 8;
        AvalancheVote x = new AvalancheVote();
        due("vote(0)", x.vote(0), BAD);
        x.ledge(10, 0, -1);
        x.ledge(4, 0, 0);
        x.ledge(5, 3, 1);
        x.voter(0, 2, 2);
        x.voter(0, 0, 9);
        due("vote(-1)", x.vote(-1), BAD);
        due("vote(2)", x.vote(2), BAD);
        due("as much as it holds does not come down", x.vote(0), 0);
        due("of(2, 2)", x.of(2, 2), 2);
        due("of(2, 1)", x.of(2, 1), 3);
        due("one more: from 2 onto 1 onto 0", x.vote(0), 6);
        due("of(0, 1): what comes is snow", x.of(0, 1), 7);
        due("of(0, 2)", x.of(0, 2), 0);
        due("of(1, 1)", x.of(1, 1), 0);
        due("of(2, 1)", x.of(2, 1), 0);
        due("of(2, 2)", x.of(2, 2), 0);
        due("away into the valley", x.vote(1), 1);
        due("count(3)", x.count(3), 0);
        due("count(2)", x.count(2), 3);
        status(x, 3, 0, 0);
        // Both 1 and 2 hang over 0: the first comes down first, and 0 twice behind them.
        AvalancheVote y = told("mountain;ledge 3 0;below 2 9 0;below 2 8 0;ledge 50 0;voter 0 3 1;");
        due("what hung over comes down with the next stone", y.vote(0), 7);
        due("winner()", y.winner(), 1);
        due("count(3)", y.count(3), 1);
    }

    private static void promise8Kinds() {
        promise = 8;
        AvalancheVote x = told("mountain;ledge 9 3;below 6 2 0;below 20 2 1;below 30 8 2;");
        x.voter(1, 0, 6);
        x.voter(1, 0, 7);
        x.voter(3, 0, 9);
        x.voter(2, 1, 3);
        x.voter(4, 2, 5);
        x.voter(5, 2, 4);
        due("cautious: as much as it holds", x.about(0, 3), 0);
        due("cautious: else the lightest, of like ones the first", x.about(1, 3), 1);
        due("skier: half cut up, 5: 8 of 9", x.about(2, 3), 0);
        due("loud", x.about(3, 4), 6);
        due("goat: on the one below", x.about(4, 3), 1);
        due("whip: even, as loud", x.about(5, 3), 2);
        due("whip: twice", x.about(5, 4), 8);
        due("vote(2)", x.vote(2), 0);
        due("of(0, 2)", x.of(0, 2), 5);
        due("whip: odd, the heaviest, of like ones the first", x.about(5, 3), 0);
        due("skier: 8 and 5 are too much", x.about(2, 3), 1);
        due("vote(5): 16 of 9 come down", x.vote(5), 1);
        due("whip: even again", x.about(5, 3), 2);
        due("goat on the lowest stays there", told("mountain;ledge 9 0;ledge 9 0;voter 4 1 1;").about(0, 3), 1);
    }

    private static void promise9Night() {
        promise = 9;
        AvalancheVote x = new AvalancheVote();
        due("night(0)", x.night(0), BAD);
        due("night(10)", x.night(10), BAD);
        due("night(-1)", x.night(-1), BAD);
        due("night(9) on nothing", x.night(9), 0);
        x.ledge(10, 1, -1);
        x.ledge(12, 3, 0);
        due("night(9): 10, 12", x.night(9), 0);
        due("of(0, 1)", x.of(0, 1), 10);
        due("night(1): 0 first, then 1 onto it and 0 again", x.night(1), 3);
        due("count(3)", x.count(3), 0);
        due("winner()", x.winner(), 0);
        due("coalition()", x.coalition(), 3);
        due("count(2): a night is no vote", x.count(2), 0);
        status(x, 3, 0, 0);
    }

    private static void promise10Undo() {
        promise = 10;
        AvalancheVote x = told("mountain;ledge 4 1;below 9 0 0;voter 0 0 3;voter 0 1 2;");
        due("undo()", x.undo(), NO);
        x.vote(1);
        x.vote(0);
        due("count(5)", x.count(5), 2);
        due("vote(0)", x.vote(0), 1);
        due("undo()", x.undo(), 2);
        due("winner()", x.winner(), NONE);
        due("coalition()", x.coalition(), 0);
        due("of(0, 1)", x.of(0, 1), 1);
        due("of(0, 2)", x.of(0, 2), 3);
        due("undo()", x.undo(), 1);
        due("of(0, 2)", x.of(0, 2), 0);
        x.night(9);
        due("undo() of a night", x.undo(), 1);
        due("of(1, 1)", x.of(1, 1), 0);
        due("of(1, 2)", x.of(1, 2), 2);
        x.ledge(0, 0, 0);
        due("a refused ledge leaves them", x.count(5), 1);
        x.ledge(5, 0, -1);
        due("behind a ledge", x.undo(), NO);
        x.vote(1);
        x.voter(0, 0, 1);
        due("behind a voter", x.undo(), NO);
        x.seen(1, 1);
        for (int i = 0; i < 9; i++) {
            x.vote(1);
        }
        due("count(5)", x.count(5), 8);
        for (int i = 0; i < 8; i++) {
            due("undo()", x.undo(), 10 - i);
        }
        due("undo() a ninth time", x.undo(), NO);
        due("count(4): what was seen stays", x.count(4), 1);
        status(x, 1, 4, 0);
        AvalancheVote y = told("mountain;ledge 4 4;below 4 4 0;voter 0 1 1;");
        due("vote(0)", y.vote(0), 3);
        y.image(0);
        y.vote(0);
        y.undo();
        due("a winner that there was ahead of it stays", y.winner(), 1);
        due("so does the coalition", y.coalition(), 3);
        y.mountain();
        y.from(0);
        due("undo() from an image", y.undo(), 0);
        due("winner()", y.winner(), NONE);
        due("count(3)", y.count(3), 8);
    }

    private static void promise11Of() {
        promise = 11;
        AvalancheVote x = new AvalancheVote();
        due("of(0, 0)", x.of(0, 0), -10);
        x.ledge(60, 30, -1);
        x.ledge(20, 7, 0);
        x.voter(2, 1, 6);
        x.vote(0);
        due("of(1, 0)", x.of(1, 0), 20);
        due("of(1, 1)", x.of(1, 1), 7);
        due("of(1, 2)", x.of(1, 2), 12);
        due("of(1, 3)", x.of(1, 3), 0);
        due("of(0, 3)", x.of(0, 3), NONE);
        due("of(2, 0)", x.of(2, 0), -10);
        due("of(-1, 0)", x.of(-1, 0), -10);
        due("of(0, 4)", x.of(0, 4), -10);
        due("of(0, -1)", x.of(0, -1), -10);
        status(x, 5, 0, 0);
    }

    private static void promise12About() {
        promise = 12;
        AvalancheVote x = new AvalancheVote();
        due("about(0, 0)", x.about(0, 0), BAD);
        x.ledge(60, 0, -1);
        x.ledge(5, 4, 0);
        x.voter(3, 1, 3);
        due("about(0, 0)", x.about(0, 0), 3);
        due("about(0, 1)", x.about(0, 1), 1);
        due("about(0, 2)", x.about(0, 2), 3);
        due("about(0, 3)", x.about(0, 3), 0);
        due("about(0, 4)", x.about(0, 4), 2);
        due("about(0, 5)", x.about(0, 5), BAD);
        due("about(0, -1)", x.about(0, -1), BAD);
        due("about(1, 0)", x.about(1, 0), BAD);
        due("about(-1, 0)", x.about(-1, 0), BAD);
        due("nothing was set", x.count(3), 4);
        status(x, 5, 0, 0);
    }

    private static void promise13Winner() {
        promise = 13;
        AvalancheVote x = told("mountain;ledge 3 0;below 3 0 0;ledge 3 0;voter 2 1 2;voter 2 2 2;");
        due("winner()", x.winner(), NONE);
        due("vote(1)", x.vote(1), 4);
        due("winner()", x.winner(), 2);
        due("vote(0)", x.vote(0), 3);
        due("the first one stays", x.winner(), 2);
        x.ledge(1, 0, -1);
        due("behind a ledge that comes", x.winner(), 2);
        x.mountain();
        due("behind mountain()", x.winner(), NONE);
    }

    private static void promise14Coalition() {
        promise = 14;
        AvalancheVote x = told("mountain;ledge 3 0;below 3 0 0;ledge 3 0;voter 2 1 2;voter 2 2 2;");
        due("coalition()", x.coalition(), 0);
        due("vote(0)", x.vote(0), 3);
        due("winner()", x.winner(), 1);
        due("coalition()", x.coalition(), 3);
        due("vote(1)", x.vote(1), 4);
        due("only of the same vote", x.coalition(), 3);
    }

    private static void promise15February() {
        promise = 15;
        AvalancheVote x = new AvalancheVote();
        due("february(0)", x.february(0), NONE);
        due("february(1)", x.february(1), 0);
        due("february(2)", x.february(2), BAD);
        due("february(-1)", x.february(-1), BAD);
        typeAll(x, "mountain;ledge 9 0;below 5 2 0;below 4 0 1;voter 0 2 4;voter 0 2 3;voter 0 0 9;");
        x.read();
        long before = x.digest();
        due("february(0)", x.february(0), 2);
        due("february(1): 7 come onto 1, 9 onto 0, which holds it", x.february(1), 6);
        due("nothing is changed", x.digest(), before);
        x.vote(2);
        x.vote(2);
        due("winner()", x.winner(), 0);
        due("the winner that there is", x.february(0), 0);
        due("the coalition that there is", x.february(1), 1);
        status(x, 2, 0, 0);
    }

    private static void promise16Orders() {
        promise = 16;
        AvalancheVote x = new AvalancheVote();
        due("orders(0, -1)", x.orders(0, -1), -10);
        x.ledge(5, 0, -1);
        x.ledge(5, 0, -1);
        due("no voters: none", x.orders(0, -1), 0);
        due("no voters: no such order", x.orders(0, 0), NONE);
        x.voter(0, 0, 3);
        x.voter(0, 1, 3);
        x.voter(0, 1, 3);
        x.voter(0, 0, 4);
        long before = x.digest();
        // The winner is the one whose second voter comes first: by likeness it is half of 24 each.
        due("orders(0, -1)", x.orders(0, -1), 12);
        due("orders(1, -1)", x.orders(1, -1), 12);
        int[] first0 = {0, 1, 3, 2};
        int[] first1 = {0, 1, 2, 3};
        for (int i = 0; i < 4; i++) {
            due("orders(0, " + i + ")", x.orders(0, i), first0[i]);
            due("orders(1, " + i + ")", x.orders(1, i), first1[i]);
        }
        due("not so many", x.orders(0, 4), -5);
        due("not so many", x.orders(0, Integer.MAX_VALUE), -5);
        due("orders(0, -2)", x.orders(0, -2), -10);
        due("orders(2, 0)", x.orders(2, 0), -10);
        due("orders(-1, 0)", x.orders(-1, 0), -10);
        due("nothing is changed", x.digest(), before);
        AvalancheVote y = told("mountain;ledge 3 0;ledge 9 0;voter 0 1 1;voter 0 0 4;voter 0 1 2;");
        y.february(0);
        due("whatever was asked ahead of it", y.orders(0, -1), 6);
        due("behind the winner the others rise", y.orders(0, 0) * 100 + y.orders(0, 1) * 10 + y.orders(0, 2), 12);
        AvalancheVote w = told("mountain;ledge 3 0;voter 0 0 4;voter 0 0 1;voter 0 0 1;");
        due("behind the first one too", w.orders(0, 0) * 100 + w.orders(0, 1) * 10 + w.orders(0, 2), 12);
        x.ledge(5, 0, -1);
        due("orders(2, -1)", x.orders(2, -1), 0);
        due("no such order", x.orders(2, 9), NONE);
        x.night(9);
        due("there is a winner", x.orders(0, -1), NO);
        due("a wrong number goes ahead", x.orders(3, -1), -10);
        status(x, 5, 1, 0);
    }

    private static void promise17Stones() {
        promise = 17;
        AvalancheVote x = new AvalancheVote();
        due("stones(0, 0)", x.stones(0, 0), BAD);
        x.ledge(9, 4, -1);
        x.ledge(5, 4, 0);
        x.ledge(7, 4, -1);
        long before = x.digest();
        due("two on 1 bring 6 onto 4", x.stones(0, 0), 2);
        due("stones(0, 1)", x.stones(0, 1), 1);
        due("stones(2, 0)", x.stones(2, 0), 4);
        due("stones(2, 1)", x.stones(2, 1), 2);
        due("nothing is changed", x.digest(), before);
        x.ledge(60, 0, 2);
        due("stones(3, 0): more than five", x.stones(3, 0), NONE);
        due("stones(3, 1)", x.stones(3, 1), NONE);
        x.ledge(5, 0, 2);
        x.ledge(4, 0, -1);
        due("stones(4, 0): six", x.stones(4, 0), NONE);
        due("stones(5, 0): five are the most", x.stones(5, 0), 5);
        x.ledge(1, 2, -1);
        due("what hangs over comes down by any stone", x.stones(6, 0), 1);
        due("the first of those", x.stones(6, 1), 0);
        due("stones(7, 0)", x.stones(7, 0), BAD);
        due("stones(-1, 0)", x.stones(-1, 0), BAD);
        due("stones(0, 2)", x.stones(0, 2), BAD);
        due("stones(0, -1)", x.stones(0, -1), BAD);
        status(x, 5, 0, 0);
        // One on 1 and one on 2, in this order or the other: the first row begins with 1.
        AvalancheVote y = told("mountain;ledge 9 3;below 3 3 0;below 3 3 0;");
        due("stones(0, 0)", y.stones(0, 0), 2);
        due("stones(0, 1)", y.stones(0, 1), 1);
    }

    private static void promise18Buried() {
        promise = 18;
        AvalancheVote x = new AvalancheVote();
        due("buried(0, 1)", x.buried(0, 1), BAD);
        x.ledge(20, 0, -1);
        x.ledge(10, 0, 0);
        x.ledge(5, 0, 1);
        long before = x.digest();
        due("it holds: nothing comes", x.buried(2, 5), 0);
        due("a stone of 1", x.buried(2, 1), 0);
        due("buried(2, 10)", x.buried(2, 10), 2);
        due("buried(2, 11)", x.buried(2, 11), 3);
        due("into the valley", x.buried(0, 20), 0);
        due("buried(2, 0)", x.buried(2, 0), BAD);
        due("buried(2, 21)", x.buried(2, 21), BAD);
        due("buried(3, 1)", x.buried(3, 1), BAD);
        due("buried(-1, 1)", x.buried(-1, 1), BAD);
        due("nothing is changed", x.digest(), before);
        status(x, 5, 0, 0);
    }

    private static void promise19Nights() {
        promise = 19;
        AvalancheVote x = new AvalancheVote();
        due("nights(0, 1)", x.nights(0, 1), BAD);
        x.ledge(60, 1, -1);
        x.ledge(60, 0, -1);
        x.ledge(30, 0, 1);
        long before = x.digest();
        due("60 and 1 by 1", x.nights(0, 1), 60);
        due("nights(0, 9): 1, 10, .. 55, 64", x.nights(0, 9), 7);
        due("31 come onto 31 in night 31", x.nights(1, 1), 31);
        due("nights(2, 1)", x.nights(2, 1), 31);
        due("nothing is changed", x.digest(), before);
        x.mountain();
        x.ledge(60, 0, -1);
        due("60 by 1 are not enough", x.nights(0, 1), NONE);
        due("nights(0, 0)", x.nights(0, 0), BAD);
        due("nights(0, 10)", x.nights(0, 10), BAD);
        due("nights(1, 1)", x.nights(1, 1), BAD);
        due("nights(-1, 1)", x.nights(-1, 1), BAD);
        x.night(9);
        due("nights(0, 1) from there", x.nights(0, 1), 52);
        due("count(3)", x.count(3), 9);
        status(x, 5, 0, 0);
    }

    private static void promise20Parties() {
        promise = 20;
        AvalancheVote x = told("mountain;ledge 5 4;ledge 5 4;ledge 60 0;");
        long before = x.digest();
        due("one stone: neither", x.parties(0, 1, 1, 0), 1);
        due("the least by which it is so", x.parties(0, 1, 1, 1), 0);
        due("two: a can set aside", x.parties(0, 1, 2, 0), 1);
        // b would have to take a stone away: whatever b sets, a's second one brings 0 down.
        due("three: a sets 0 twice", x.parties(0, 1, 3, 0), 2);
        due("three: a begins on 0", x.parties(0, 1, 3, 1), 0);
        due("parties(1, 0, 3, 1)", x.parties(1, 0, 3, 1), 1);
        due("parties(2, 0, 4, 0): b brings 0 down, a can't hinder", x.parties(2, 0, 4, 0), 0);
        due("parties(2, 0, 4, 1)", x.parties(2, 0, 4, 1), 0);
        due("nothing is changed", x.digest(), before);
        due("alike", x.parties(0, 0, 1, 0), -10);
        due("n 0", x.parties(0, 1, 0, 0), -10);
        due("n 5", x.parties(0, 1, 5, 0), -10);
        due("what 2", x.parties(0, 1, 1, 2), -10);
        due("what -1", x.parties(0, 1, 1, -1), -10);
        due("k", x.parties(3, 1, 1, 0), -10);
        due("j", x.parties(0, 3, 1, 0), -10);
        due("k -1", x.parties(-1, 0, 1, 0), -10);
        due("j -1", x.parties(0, -1, 1, 0), -10);
        status(x, 9, 0, 0);
        AvalancheVote y = told("mountain;ledge 5 5;below 5 5 0;");
        due("by one stone both: 1 is first, then 0", y.parties(1, 0, 1, 0), 2);
        due("a sets on 1, not on 0", y.parties(1, 0, 1, 1), 1);
        due("a sets on 0", y.parties(0, 1, 1, 1), 0);
        AvalancheVote z = told("mountain;ledge 5 9;below 5 9 0;ledge 9 0;");
        due("what hangs over: 0 is first whatever a does", z.parties(1, 0, 4, 0), 0);
        due("then the least is 0", z.parties(1, 0, 4, 1), 0);
        due("parties(2, 1, 1, 0)", z.parties(2, 1, 1, 0), 0);
    }

    private static void promise21Seen() {
        promise = 21;
        AvalancheVote x = new AvalancheVote();
        due("seen(-1, 0)", x.seen(-1, 0), BAD);
        due("seen(100, 0)", x.seen(100, 0), BAD);
        due("seen(0, -1)", x.seen(0, -1), BAD);
        due("seen(0, 2)", x.seen(0, 2), BAD);
        for (int i = 1; i <= 6; i++) {
            due("seen", x.seen(i == 1 ? 0 : 99, i % 2), i);
        }
        due("seen(5, 1)", x.seen(5, 1), FULL);
        due("seen(5, 2)", x.seen(5, 2), BAD);
        due("count(4)", x.count(4), 6);
        status(x, 5, 0, 1);
    }

    private static void promise22Forget() {
        promise = 22;
        AvalancheVote x = new AvalancheVote();
        due("forget()", x.forget(), 0);
        x.seen(10, 1);
        x.seen(20, 0);
        due("forget()", x.forget(), 2);
        due("count(4)", x.count(4), 0);
        due("hold(0)", x.hold(0), 60);
        due("forget()", x.forget(), 0);
    }

    private static void promise23Hold() {
        promise = 23;
        AvalancheVote x = new AvalancheVote();
        due("hold(0)", x.hold(0), 60);
        due("hold(1)", x.hold(1), 1);
        x.seen(10, 1);
        due("what bore 10 holds 10 or more", x.hold(0), 51);
        due("hold(1)", x.hold(1), 10);
        x.seen(21, 0);
        due("what came down by 21 holds 20 or less", x.hold(0), 11);
        x.seen(11, 0);
        due("hold(0)", x.hold(0), 1);
        due("hold(1)", x.hold(1), 10);
        x.seen(11, 1);
        due("hold(0)", x.hold(0), 0);
        due("hold(1)", x.hold(1), NONE);
        due("hold(2)", x.hold(2), -10);
        due("hold(-1)", x.hold(-1), -10);
        x.forget();
        x.seen(99, 0);
        due("seen above 60 tells nothing if it came down", x.hold(0), 60);
        x.seen(1, 0);
        due("none holds 0", x.hold(0), 0);
        status(x, 2, 0, 0);
    }

    private static void promise24Stick() {
        promise = 24;
        AvalancheVote x = new AvalancheVote();
        due("1 .. 60: 30 and 30", x.stick(), 31);
        x.seen(10, 1);
        x.seen(13, 0);
        due("10, 11, 12: by 11 two and one, by 12 one and two", x.stick(), 11);
        x.seen(11, 1);
        due("11, 12", x.stick(), 12);
        x.seen(12, 1);
        due("12 alone: 0 is as good as any", x.stick(), 0);
        x.seen(5, 0);
        due("none is so", x.stick(), NONE);
        due("count(4)", x.count(4), 5);
        x.forget();
        x.seen(59, 1);
        due("59, 60", x.stick(), 60);
        status(x, 0, 0, 0);
    }

    private static void promise25Is() {
        promise = 25;
        AvalancheVote x = told("mountain;ledge 20 0;below 9 4 0;below 9 4 1;voter 0 1 6;voter 2 2 1;");
        due("is(0, 1, 6): plain alone", x.is(0, 1, 6), 1);
        due("is(0, 0, 6): cautious, goat", x.is(0, 0, 6), 18);
        due("is(0, 1, 12): loud, whip", x.is(0, 1, 12), 36);
        due("is(0, 1, 3): skier", x.is(0, 1, 3), 8);
        due("is(0, 2, 6)", x.is(0, 2, 6), 0);
        due("is(1, 2, 1): half of 1 is 1", x.is(1, 2, 1), 11);
        x.vote(1);
        due("is(0, 1, 12) behind a vote: loud", x.is(0, 1, 12), 4);
        due("is(0, 2, 12): whip on the heaviest", x.is(0, 2, 12), 32);
        due("is(2, 0, 1)", x.is(2, 0, 1), BAD);
        due("is(-1, 0, 1)", x.is(-1, 0, 1), BAD);
        due("is(0, 3, 1)", x.is(0, 3, 1), BAD);
        due("is(0, -1, 1)", x.is(0, -1, 1), BAD);
        due("is(0, 0, 0)", x.is(0, 0, 0), BAD);
        due("is(0, 0, 21)", x.is(0, 0, 21), BAD);
        due("is(0, 0, 20)", x.is(0, 0, 20), 0);
        status(x, 6, 0, 0);
    }

    private static void fraction(AvalancheVote x, int k, int c, long above, long below) {
        due("sneeze(" + k + ", " + c + ")", x.sneeze(k, c), 1);
        due("part(0) of " + k + ", " + c, x.part(0), above);
        due("part(1) of " + k + ", " + c, x.part(1), below);
    }

    private static void promise26Sneeze() {
        promise = 26;
        AvalancheVote x = new AvalancheVote();
        due("sneeze(0, 5)", x.sneeze(0, 5), BAD);
        x.ledge(5, 0, -1);
        x.ledge(5, 0, -1);
        fraction(x, 0, 5, 0, 1);
        x.voter(0, 0, 6);
        x.voter(0, 1, 6);
        fraction(x, 0, 3, 7, 10);
        fraction(x, 1, 3, 21, 100);
        fraction(x, 1, 0, 0, 1);
        fraction(x, 0, 0, 1, 1);
        fraction(x, 0, 10, 0, 1);
        fraction(x, 0, 5, 1, 2);
        long before = x.digest();
        due("sneeze(2, 5)", x.sneeze(2, 5), BAD);
        due("sneeze(-1, 5)", x.sneeze(-1, 5), BAD);
        due("sneeze(0, 11)", x.sneeze(0, 11), BAD);
        due("sneeze(0, -1)", x.sneeze(0, -1), BAD);
        due("the fraction stays", x.digest(), before);
        x.voter(0, 0, 1);
        x.voter(0, 0, 1);
        x.voter(0, 0, 1);
        x.voter(0, 0, 1);
        fraction(x, 1, 1, 9, 100);
        fraction(x, 0, 1, 9, 10);
        x.vote(1);
        fraction(x, 1, 4, 1, 1);
        fraction(x, 0, 4, 0, 1);
        status(x, 5, 0, 0);
        // Both must vote, and a whip's ledge hangs on how many votes there were: 6 onto 0, 4 onto it or not.
        AvalancheVote y = told("mountain;ledge 9 0;ledge 3 0;voter 0 0 6;voter 5 1 2;");
        fraction(y, 0, 2, 16, 25);
        fraction(y, 1, 2, 4, 25);
    }

    private static void promise27Februaries() {
        promise = 27;
        AvalancheVote x = new AvalancheVote();
        due("februaries(0, 0)", x.februaries(0, 0), NO);
        x.ledge(60, 7, -1);
        due("no voters", x.februaries(0, 0), NO);
        due("februaries(-1, 0)", x.februaries(-1, 0), BAD);
        due("februaries(1000000, 0)", x.februaries(1000000, 0), BAD);
        due("februaries(0, -1)", x.februaries(0, -1), BAD);
        due("februaries(0, 61)", x.februaries(0, 61), BAD);
        x.voter(0, 0, 1);
        x.voter(0, 0, 3);
        long before = x.digest();
        due("none", x.februaries(999999, 0), 7);
        // X is 12345, by 65536 0: the voter 0; then 1406932606, 21468: 0; 654583775, 9988: 0.
        due("februaries(0, 1)", x.februaries(0, 1), 8);
        due("februaries(0, 2)", x.februaries(0, 2), 9);
        due("februaries(0, 3)", x.februaries(0, 3), 10);
        // Then 1449466924, 22117: the voter 1.
        due("februaries(0, 4)", x.februaries(0, 4), 13);
        // X is 1103527590, 16838: the voter 0; by 3 it is 1163074432, 17747: the voter 1.
        due("februaries(1, 1)", x.februaries(1, 1), 8);
        due("februaries(3, 1)", x.februaries(3, 1), 10);
        due("60 votes are as many as may be", x.februaries(0, 60) > 0 ? 1 : 0, 1);
        due("nothing is changed", x.digest(), before);
        status(x, 4, 2, 0);
        AvalancheVote y = told("mountain;ledge 60 0;voter 0 0 1;");
        due("one voter, 60 votes", y.februaries(5, 60), 60);
        due("one voter, 59 votes", y.februaries(5, 59), 59);
    }

    private static void promise28Part() {
        promise = 28;
        AvalancheVote x = told("mountain;ledge 5 0;voter 0 0 9;");
        due("part(0)", x.part(0), 0);
        due("part(1)", x.part(1), 1);
        x.sneeze(0, 4);
        due("part(0)", x.part(0), 3);
        due("part(1)", x.part(1), 5);
        due("part(2)", x.part(2), BAD);
        due("part(-1)", x.part(-1), BAD);
        status(x, 2, 0, 0);
    }

    private static void promise29Image() {
        promise = 29;
        AvalancheVote x = told("mountain;ledge 5 0;voter 0 0 3;");
        due("image(-1)", x.image(-1), BAD);
        due("image(2)", x.image(2), BAD);
        due("image(0)", x.image(0), 1);
        x.vote(0);
        due("image(1)", x.image(1), 1);
        x.vote(0);
        due("image(0) anew", x.image(0), 1);
        x.mountain();
        due("from(1)", x.from(1), 1);
        due("count(2)", x.count(2), 1);
        due("from(0)", x.from(0), 1);
        due("count(2)", x.count(2), 2);
        due("winner()", x.winner(), 0);
        status(x, 2, 0, 0);
    }

    private static void promise30From() {
        promise = 30;
        AvalancheVote x = told("mountain;ledge 5 1;below 4 0 0;voter 1 0 3;voter 5 1 2;");
        due("from(2)", x.from(2), BAD);
        due("from(-1)", x.from(-1), BAD);
        due("from(0)", x.from(0), NO);
        x.seen(4, 1);
        x.vote(0);
        x.night(2);
        x.image(0);
        long before = x.digest();
        due("from(1)", x.from(1), NO);
        x.undo();
        x.undo();
        x.vote(1);
        x.vote(1);
        x.ledge(9, 9, 1);
        x.voter(4, 2, 7);
        x.forget();
        x.seen(9, 0);
        due("from(0)", x.from(0), 1);
        due("all is as it was kept", x.digest(), before);
        due("undo()", x.undo(), 1);
        due("undo()", x.undo(), 0);
        due("count(3)", x.count(3), 1);
        due("from(0): what goes on does not change the image", x.from(0), 1);
        due("digest()", x.digest(), before);
        x.type(65);
        x.sneeze(0, 0);
        long text = x.count(6);
        long above = x.part(0);
        x.from(0);
        due("the text is not kept", x.count(6), text);
        due("the fraction is not kept", x.part(0), above);
        status(x, 2, 2, 0);
    }

    private static void promise31Status() {
        promise = 31;
        AvalancheVote x = new AvalancheVote();
        status(x, 0, 0, 0);
        due("status(3)", x.status(3), -1);
        due("status(-1)", x.status(-1), -1);
        status(x, 2, 0, 0);
        x.undo();
        x.of(0, 0);
        x.hold(2);
        x.read();
        x.winner();
        status(x, 4, 1, 0);
        x.image(0);
        x.mountain();
        x.from(0);
        status(x, 4, 1, 0);
        for (int i = 0; i < 9; i++) {
            x.ledge(1, 0, -1);
        }
        status(x, 4, 1, 1);
        x.orders(0, 0);
        x.stones(7, 0);
        status(x, 4, 1, 1);
    }

    private static void promise32Count() {
        promise = 32;
        AvalancheVote x = told("mountain;ledge 50 5;below 50 6 0;voter 0 1 3;");
        x.vote(0);
        x.night(2);
        x.vote(0);
        x.seen(1, 1);
        x.seen(2, 1);
        int[] want = {2, 1, 2, 21, 2, 3, 45};
        for (int what = 0; what <= 6; what++) {
            due("count(" + what + ")", x.count(what), want[what]);
        }
        due("count(7)", x.count(7), BAD);
        due("count(-1)", x.count(-1), BAD);
        status(x, 2, 0, 0);
    }

    private static long hash(long... values) {
        long h = 1151;
        for (long v : values) {
            h = 31 * h + v;
        }
        return h;
    }

    private static void promise33Digest() {
        promise = 33;
        AvalancheVote x = new AvalancheVote();
        due("digest()", x.digest(), hash(0, 0, 0, 0, 0, 0, 0, -1, 0, 0, 1));
        x.type(59);
        x.ledge(5, 1, -1);
        x.ledge(60, 9, 0);
        x.voter(2, 1, 4);
        x.voter(0, 0, 7);
        x.seen(30, 1);
        x.seen(70, 0);
        x.vote(0);
        x.sneeze(0, 4);
        due("digest()", x.digest(),
                hash(2, 2, 1, 18, 2, 1, 1, -1, 0, 5, 1, 0, -1, 60, 9, 8, 0, 2, 1, 4, 0, 0, 7, 30, 1, 70, 0, 3, 5));
        x.vote(1);
        due("digest()", x.digest(),
                hash(2, 2, 2, 17, 2, 2, 1, 0, 1, 5, 0, 0, -1, 60, 9, 8, 0, 2, 1, 4, 0, 0, 7, 30, 1, 70, 0, 3, 5));
        x.vote(9);
        x.count(9);
        due("refusals do not count in it", x.digest(),
                hash(2, 2, 2, 17, 2, 2, 1, 0, 1, 5, 0, 0, -1, 60, 9, 8, 0, 2, 1, 4, 0, 0, 7, 30, 1, 70, 0, 3, 5));
    }
}
