/**
 * Each sentence of the document that names a boundary: too small, too large, empty, full, the last one that is
 * taken, the first that is not. (RefusalTest has the ranges of all numbers, and what a refused call leaves.)
 */
public final class BoundaryTest {
    private static final int NONE = -1, BAD = -2, NO = -3, FULL = -4, BAD_TEN = -10, NOT_SO_MANY = -5;
    private static final int VALLEY = -1;
    private static final int PLAIN = 0, CAUTIOUS = 1, LOUD = 2, SKIER = 3, GOAT = 4, WHIP = 5;

    public static void main(String[] args) {
        newObject();
        mountain();
        ledges();
        voters();
        kinds();
        type();
        clear();
        comingDown();
        hangingOver();
        night();
        undo();
        undoBehind();
        of();
        about();
        winner();
        coalition();
        february();
        orders();
        stones();
        buried();
        nights();
        parties();
        seen();
        hold();
        stick();
        is();
        sneeze();
        februaries();
        images();
        imagesKeep();
        status();
        count();
        digest();
        lastCall();
        Run.finish();
    }

    private static void newObject() {
        Run.sentence(1, "As told; no LEDGES, VOTERS");
        new Run().counts(0, 0, 0, 0, 0, 0, 0).due(NONE, "winner").due(0, "coalition").status(0, 0, 0);
        Run.sentence(1, "THE FRACTION is 0 by 1 at first");
        new Run().due(0, "part", 0).due(1, "part", 1);
        Run.sentence(1, "no IMAGE, nothing to undo, no SEEN, an empty TEXT");
        new Run().due(NO, "from", 0).due(NO, "from", 1).due(NO, "undo").due(0, "forget").due(0, "clear")
                .status(0, 3, 0);
    }

    private static void mountain() {
        Run.sentence(2, "how many LEDGES there were: none, one, eight");
        Run r = new Run().due(0, "mountain").then("ledge", 1, 0, VALLEY).due(1, "mountain").due(0, "mountain");
        r.times(8, "ledge", 1, 0, VALLEY).due(8, "mountain").counts(0, 0, 0, 0, 0, 0, 0);
        Run.sentence(2, "All as at first (but for IMAGES, THE TEXT, THE FRACTION, STATUS)");
        r = new Run().then("type", 109).then("ledge", 2, 0, VALLEY).then("voter", PLAIN, 0, 3).then("seen", 5, 1);
        r.then("image", 0).then("vote", 0).then("image", 1).then("sneeze", 0, 10).then("undo").times(2, "undo");
        r.then("vote", 0).then("vote", 1).then("ledge", 0, 0, 0).due(1, "mountain");
        r.counts(0, 0, 0, 0, 0, 0, 1).due(NONE, "winner").due(0, "coalition");
        r.due(1, "part", 0).due(1, "part", 1).status(2, 2, 0).due(NO, "undo");
        r.due(1, "from", 1).due(0, "winner").due(1, "from", 0).due(NONE, "winner").counts(1, 1, 0, 0, 1, 0, 1);
        Run.sentence(2, "LEDGES, VOTERS begin at 0 again, and there is room for all of them");
        r = new Run();
        for (int again = 0; again < 2; again++) {
            for (int k = 0; k < 8; k++) {
                r.due(k, "ledge", 1, 0, VALLEY);
            }
            for (int v = 0; v < 6; v++) {
                r.due(v, "voter", PLAIN, 0, 1).due(v + 1, "seen", 0, 1);
            }
            r.due(FULL, "ledge", 1, 0, VALLEY).due(FULL, "voter", 0, 0, 1).due(FULL, "seen", 0, 1);
            r.due(8, "mountain");
        }
        Run.sentence(2, "a LEDGE that comes anew has no STONES of the one that was there");
        r = new Run().then("ledge", 60, 9, VALLEY).then("voter", PLAIN, 0, 9).then("vote", 0).then("mountain");
        r.then("ledge", 60, 2, VALLEY).due(2, "of", 0, 1).due(0, "of", 0, 2).due(BAD, "vote", 0);
    }

    private static void ledges() {
        Run.sentence(3, "HOLDS (1 .. 60)");
        new Run().due(BAD, "ledge", 0, 0, VALLEY).due(0, "ledge", 1, 0, VALLEY).due(1, "ledge", 60, 0, VALLEY)
                .due(BAD, "ledge", 61, 0, VALLEY).due(1, "of", 0, 0).due(60, "of", 1, 0).status(2, 0, 0);
        Run.sentence(3, "SNOW (0 .. 30)");
        new Run().due(BAD, "ledge", 9, -1, VALLEY).due(0, "ledge", 9, 0, VALLEY).due(1, "ledge", 9, 30, VALLEY)
                .due(BAD, "ledge", 9, 31, VALLEY).due(0, "of", 0, 1).due(30, "of", 1, 1).status(2, 0, 0);
        Run.sentence(3, "the LEDGE below (one that came ahead of it, or none: the valley)");
        Run r = new Run().due(BAD, "ledge", 9, 0, 0).due(BAD, "ledge", 9, 0, -2).due(0, "ledge", 9, 0, VALLEY);
        for (int k = 1; k < 8; k++) {
            r.due(BAD, "ledge", 9, 0, k).due(k, "ledge", 9, 0, k - 1).due(k - 1, "of", k, 3);
        }
        r.due(NONE, "of", 0, 3).status(9, 0, 0);
        Run.sentence(3, "FULL: 8");
        r = new Run();
        for (int k = 0; k < 8; k++) {
            r.due(k, "ledge", 9, k, VALLEY);
        }
        r.due(FULL, "ledge", 9, 0, VALLEY).due(FULL, "ledge", 9, 0, 7).status(0, 0, 2).due(8, "count", 0);
        Run.sentence(3, "the first of: BAD, FULL");
        r.due(BAD, "ledge", 9, 0, 8).due(BAD, "ledge", 61, 0, 0).due(BAD, "ledge", 9, 31, 0).status(3, 0, 2);
        Run.sentence(3, "STONES on it (0 at first)");
        new Run().then("ledge", 9, 30, VALLEY).due(0, "of", 0, 2).due(30, "count", 3);
    }

    private static void voters() {
        Run.sentence(4, "a KIND, for a LEDGE, a STONE (1 .. 9)");
        Run r = new Run().due(BAD, "voter", PLAIN, 0, 1).then("ledge", 60, 0, VALLEY).then("ledge", 60, 0, VALLEY);
        r.due(BAD, "voter", -1, 0, 1).due(0, "voter", PLAIN, 0, 1).due(1, "voter", WHIP, 1, 9);
        r.due(BAD, "voter", 6, 0, 1).due(BAD, "voter", PLAIN, -1, 1).due(BAD, "voter", PLAIN, 2, 1);
        r.due(BAD, "voter", PLAIN, 0, 0).due(BAD, "voter", PLAIN, 0, 10).status(7, 0, 0);
        r.due(PLAIN, "about", 0, 0).due(0, "about", 0, 1).due(1, "about", 0, 2);
        r.due(WHIP, "about", 1, 0).due(1, "about", 1, 1).due(9, "about", 1, 2);
        Run.sentence(4, "FULL: 6");
        for (int v = 2; v < 6; v++) {
            r.due(v, "voter", v, 0, v);
        }
        r.due(FULL, "voter", PLAIN, 0, 1).due(6, "count", 1).status(7, 0, 1);
        Run.sentence(4, "the first of: BAD, FULL");
        r.due(BAD, "voter", 6, 0, 1).due(BAD, "voter", 0, 2, 1).due(BAD, "voter", 0, 0, 10).status(10, 0, 1);
        Run.sentence(4, "a VOTER may be for the last of 8 LEDGES");
        new Run().times(8, "ledge", 9, 0, VALLEY).due(0, "voter", PLAIN, 7, 1).due(BAD, "voter", PLAIN, 8, 1)
                .due(7, "about", 0, 3);
    }

    /** A mountain of two: 0 holds 9 and has 4, 1 holds 30 and has so much. */
    private static Run two(int snow, int kind, int k, int stone) {
        return new Run().then("ledge", 9, 4, VALLEY).then("ledge", 30, snow, VALLEY).then("voter", kind, k, stone);
    }

    private static void kinds() {
        Run.sentence(12, "CAUTIOUS: if the LOAD of that one and the stone were more than it HOLDS");
        two(0, CAUTIOUS, 0, 5).due(0, "about", 0, 3).due(5, "about", 0, 4);
        two(0, CAUTIOUS, 0, 6).due(1, "about", 0, 3).due(6, "about", 0, 4);
        Run.sentence(12, "on the one of least LOAD (of like ones the first)");
        two(3, CAUTIOUS, 0, 6).due(1, "about", 0, 3);
        two(4, CAUTIOUS, 0, 6).due(0, "about", 0, 3).due(1, "vote", 0);
        two(5, CAUTIOUS, 0, 6).due(0, "about", 0, 3);
        new Run().then("ledge", 1, 5, VALLEY).then("ledge", 60, 3, 0).then("ledge", 60, 2, 1).then("ledge", 60, 2, 2)
                .then("voter", CAUTIOUS, 0, 1).due(2, "about", 0, 3);
        Run.sentence(12, "LOUD: twice STONE");
        two(0, LOUD, 0, 1).due(0, "about", 0, 3).due(2, "about", 0, 4);
        two(0, LOUD, 0, 9).due(0, "about", 0, 3).due(18, "about", 0, 4);
        Run.sentence(12, "SKIER: half (cut up) of STONE");
        int[] half = {0, 1, 1, 2, 2, 3, 3, 4, 4, 5};
        for (int stone = 1; stone <= 9; stone++) {
            two(0, SKIER, 0, stone).due(0, "about", 0, 3).due(half[stone], "about", 0, 4);
        }
        Run.sentence(12, "SKIER: as CAUTIOUS, the stone as heavy as one sets it");
        two(0, SKIER, 0, 9).then("vote", 0).due(5, "of", 0, 2).due(1, "about", 0, 3).due(0, "vote", 0)
                .due(5, "of", 1, 2);
        Run.sentence(12, "GOAT: on that below the one of PLAIN, if there is one, else there");
        new Run().then("ledge", 9, 0, VALLEY).then("ledge", 9, 0, 0).then("ledge", 9, 0, 1)
                .then("voter", GOAT, 0, 1).then("voter", GOAT, 1, 2).then("voter", GOAT, 2, 9)
                .due(0, "about", 0, 3).due(0, "about", 1, 3).due(1, "about", 2, 3).due(9, "about", 2, 4);
        Run.sentence(12, "WHIP: if the number of VOTES set is odd, else as LOUD; as LOUD");
        Run r = two(9, WHIP, 0, 1).due(0, "about", 0, 3).due(2, "about", 0, 4).then("night", 1).due(0, "about", 0, 3);
        r.then("vote", 0).due(1, "about", 0, 3).due(2, "about", 0, 4).then("night", 1).due(1, "about", 0, 3);
        r.then("vote", 0).due(0, "about", 0, 3).then("undo").due(1, "about", 0, 3);
        Run.sentence(12, "WHIP: the one with the greatest LOAD (of like ones the first)");
        two(6, WHIP, 0, 1).then("vote", 0).due(0, "about", 0, 3);
        two(7, WHIP, 0, 1).then("vote", 0).due(1, "about", 0, 3);
        two(6, WHIP, 1, 1).then("vote", 0).due(1, "about", 0, 3);
    }

    private static void type() {
        Run.sentence(5, "A byte (0 .. 127)");
        new Run().due(BAD, "type", -1).due(1, "type", 0).due(2, "type", 127).due(BAD, "type", 128)
                .due(2, "count", 6).status(2, 0, 0);
        Run.sentence(5, "A TEXT (150 bytes at most)");
        Run r = new Run();
        for (int n = 1; n <= 150; n++) {
            r.due(n, "type", n % 128);
        }
        r.due(FULL, "type", 97).due(150, "count", 6).due(FULL, "type", 0).status(0, 0, 2);
        Run.sentence(5, "the first of: BAD, FULL");
        r.due(BAD, "type", 128).due(BAD, "type", -1).status(2, 0, 2);
        Run.sentence(6, "THE TEXT is empty: how many it had");
        r.due(150, "clear").due(0, "clear").due(1, "type", 97);
    }

    private static void clear() {
        Run.sentence(6, "what was typed ahead of it is gone");
        new Run().typed("mountain;ledge 5 0;").due(19, "clear").due(-10, "read")
                .due(1, "type", 'm').due(-10, "read").due(1, "clear").due(0, "count", 6);
        Run.sentence(6, "only THE TEXT");
        new Run().told(3, "mountain;ledge 5 0;voter 0 0 1;").then("vote", 0).then("seen", 4, 1).due(31, "clear")
                .counts(1, 1, 1, 1, 1, 1, 0);
    }

    private static void comingDown() {
        Run.sentence(8, "a LEDGE whose LOAD is more than it HOLDS");
        Run r = new Run().then("ledge", 9, 3, VALLEY).then("voter", PLAIN, 0, 6).then("voter", PLAIN, 0, 1);
        r.due(0, "vote", 0).due(3, "of", 0, 1).due(6, "of", 0, 2).due(1, "vote", 1);
        Run.sentence(8, "(to the valley: away); its SNOW, STONES are 0");
        r.due(0, "of", 0, 1).due(0, "of", 0, 2).due(0, "count", 3).due(9, "of", 0, 0);
        Run.sentence(8, "all its LOAD goes to the LEDGE below (what comes to the LEDGE below is SNOW)");
        new Run().then("ledge", 10, 1, VALLEY).then("ledge", 8, 3, 0).then("voter", PLAIN, 1, 6)
                .then("voter", PLAIN, 0, 1).due(2, "vote", 0).due(10, "of", 0, 1).due(0, "of", 0, 2)
                .due(0, "of", 1, 1).due(0, "of", 1, 2).due(1, "vote", 1);
        Run.sentence(8, "eight LEDGES, one above the other, come down by one stone");
        r = new Run();
        for (int k = 0; k < 8; k++) {
            r.then("ledge", 1, 1, k - 1);
        }
        r.then("voter", PLAIN, 7, 1).due(255, "vote", 0).due(0, "count", 3).due(7, "winner").due(255, "coalition");
        Run.sentence(8, "as long as there is a LEDGE .., the first such one comes down");
        new Run().then("ledge", 5, 0, VALLEY).then("ledge", 5, 6, 0).then("ledge", 5, 6, 0).then("ledge", 9, 0, VALLEY)
                .then("voter", PLAIN, 3, 1).due(7, "vote", 0).due(1, "winner").due(7, "coalition").due(1, "count", 3);
        Run.sentence(8, "one that came down may come down once more by the same stone");
        new Run().then("ledge", 5, 6, VALLEY).then("ledge", 5, 6, 0).then("voter", PLAIN, 0, 1)
                .due(3, "vote", 0).due(0, "winner").due(0, "count", 3);
        Run.sentence(8, "VOTES are one more");
        new Run().then("ledge", 60, 0, VALLEY).then("voter", PLAIN, 0, 1).due(0, "count", 2).then("vote", 0)
                .due(1, "count", 2).due(BAD, "vote", 1).due(BAD, "vote", -1).due(1, "count", 2).status(2, 0, 0);
        Run.sentence(8, "BAD: no VOTERS");
        new Run().due(BAD, "vote", 0).then("ledge", 1, 0, VALLEY).due(BAD, "vote", 0).status(2, 0, 0);
        Run.sentence(8, "the last of six VOTERS");
        new Run().then("ledge", 60, 0, VALLEY).times(5, "voter", PLAIN, 0, 1).then("voter", PLAIN, 0, 9)
                .due(0, "vote", 5).due(9, "count", 3).due(BAD, "vote", 6);
    }

    private static Run hanging() {
        return new Run().then("ledge", 60, 0, VALLEY).then("ledge", 1, 2, 0).then("voter", PLAIN, 0, 1);
    }

    private static void hangingOver() {
        Run.sentence(8, "a LEDGE whose SNOW is more than it HOLDS .. by a call, comes down with the next stone, night");
        hanging().due(2, "of", 1, 1).due(NONE, "winner").due(0, "coalition").due(2, "vote", 0).due(1, "winner")
                .due(2, "of", 0, 1).due(1, "of", 0, 2);
        hanging().due(2, "night", 1).due(1, "winner").due(4, "of", 0, 1);
        Run.sentence(8, "told so, comes down with the next stone, night");
        new Run().told(4, "mountain;ledge 60 0;below 1 30 0;voter 0 0 1;").due(30, "of", 1, 1).due(NONE, "winner")
                .due(2, "vote", 0).due(1, "winner").due(30, "of", 0, 1);
        new Run().told(3, "mountain;ledge 60 0;below 1 2 0;").due(2, "night", 9).due(20, "of", 0, 1);
        Run.sentence(8, "SNOW as much as it HOLDS does not");
        new Run().then("ledge", 60, 0, VALLEY).then("ledge", 2, 2, 0).then("voter", PLAIN, 0, 1).due(0, "vote", 0)
                .due(2, "night", 1);
        Run.sentence(15, "what hangs over comes down in a FEBRUARY, if there is a VOTER");
        hanging().due(1, "february", 0).due(2, "february", 1).due(1, "orders", 1, NONE).due(0, "orders", 0, NONE);
        new Run().then("ledge", 1, 2, VALLEY).due(NONE, "february", 0).due(0, "february", 1).due(0, "orders", 0, NONE);
        Run.sentence(17, "what hangs over comes down by any stone, the first is set on the first LEDGE");
        hanging().due(1, "stones", 1, 0).due(0, "stones", 1, 1);
        Run.sentence(18, "what hangs over comes onto the one below, wherever the stone is set");
        hanging().due(1, "buried", 0, 1).due(1, "buried", 1, 1);
        Run.sentence(19, "what hangs over comes down in the first night");
        hanging().due(1, "nights", 1, 1);
        Run.sentence(20, "what hangs over comes down by the first stone");
        hanging().due(2, "parties", 1, 0, 1, 0).due(0, "parties", 1, 0, 1, 1).due(0, "parties", 0, 1, 4, 0)
                .due(0, "parties", 0, 1, 4, 1);
        Run.sentence(26, "what hangs over comes down if one does not sneeze");
        hanging().due(1, "sneeze", 1, 4).due(3, "part", 0).due(5, "part", 1);
    }

    private static void night() {
        Run.sentence(9, "SNOW is n (1 .. 9) more on all LEDGES");
        Run r = new Run().then("ledge", 60, 0, VALLEY).then("ledge", 60, 30, 0).then("ledge", 60, 5, VALLEY);
        r.due(BAD, "night", 0).due(BAD, "night", 10).status(2, 0, 0).due(0, "night", 1).due(0, "night", 9);
        r.due(10, "of", 0, 1).due(40, "of", 1, 1).due(15, "of", 2, 1).due(0, "of", 2, 2).due(0, "count", 2);
        Run.sentence(9, "LEDGES that come down (bits): as much as it HOLDS is none");
        new Run().then("ledge", 9, 0, VALLEY).due(0, "night", 9).due(1, "night", 1).due(0, "of", 0, 1);
        Run.sentence(9, "all eight come down in a night");
        r = new Run();
        for (int k = 0; k < 8; k++) {
            r.then("ledge", 1, 1, VALLEY);
        }
        r.due(255, "night", 1).due(0, "count", 3).due(0, "winner").due(255, "coalition");
        Run.sentence(9, "no LEDGES: it is a night still, which may be undone");
        new Run().due(0, "night", 1).due(1, "count", 5).due(0, "undo").due(NO, "undo");
        Run.sentence(9, "all LEDGES have snow ahead of what comes down");
        new Run().then("ledge", 3, 0, VALLEY).then("ledge", 2, 2, 0).due(3, "night", 1).due(1, "winner")
                .due(0, "count", 3);
    }

    private static Run voted(int votes) {
        return new Run().then("ledge", 60, 0, VALLEY).then("voter", PLAIN, 0, 1).times(votes, "vote", 0);
    }

    private static void undo() {
        Run.sentence(10, "NO: none may be");
        new Run().due(NO, "undo").due(NO, "undo").status(0, 2, 0);
        voted(0).due(NO, "undo").status(0, 1, 0);
        voted(1).due(0, "undo").due(NO, "undo").due(0, "count", 3).status(0, 1, 0);
        Run.sentence(10, "8 at most");
        for (int votes : new int[] {7, 8, 9, 17, 60}) {
            Run r = voted(votes).due(Math.min(8, votes), "count", 5);
            int back = Math.min(8, votes);
            for (int i = 1; i <= back; i++) {
                r.due(votes - i, "undo").due(votes - i, "of", 0, 2).due(back - i, "count", 5);
            }
            r.due(NO, "undo").due(votes - back, "count", 2).status(0, 1, 0);
        }
        Run.sentence(10, "what was undone makes room, and what was ahead of it may be undone still");
        voted(9).times(3, "undo").times(2, "vote", 0).due(7, "count", 5).times(7, "undo").due(NO, "undo")
                .due(1, "count", 2);
        voted(8).times(8, "undo").times(9, "vote", 0).due(8, "count", 5).times(8, "undo").due(NO, "undo")
                .due(1, "count", 2);
        Run.sentence(10, "LOADS, VOTES, WINNER, COALITION as ahead of the last VOTE, night");
        Run r = new Run().then("ledge", 5, 4, VALLEY).then("ledge", 5, 1, 0).then("voter", PLAIN, 1, 4);
        r.then("vote", 0).due(3, "night", 1).due(1, "winner").due(3, "coalition").then("night", 9);
        r.due(1, "undo").due(1, "winner").due(3, "coalition").due(0, "count", 3);
        r.due(1, "undo").due(NONE, "winner").due(0, "coalition").due(4, "of", 0, 1).due(1, "of", 1, 1);
        r.due(4, "of", 1, 2).due(0, "undo").due(0, "of", 1, 2).due(1, "of", 1, 1).due(NO, "undo");
        Run.sentence(10, "a VOTE, night that was refused can't be undone");
        voted(1).then("vote", 1).then("night", 0).then("night", 10).due(1, "count", 5).due(0, "undo");
        Run.sentence(10, "SEEN, VOTERS, THE TEXT, THE FRACTION stay");
        voted(1).then("seen", 3, 1).then("type", 97).then("sneeze", 0, 5).due(0, "undo").counts(1, 1, 0, 0, 1, 0, 1);
    }

    private static void undoBehind() {
        Run.sentence(10, "behind a LEDGE, VOTER that comes none may be");
        voted(8).then("ledge", 1, 0, VALLEY).due(0, "count", 5).due(NO, "undo").due(8, "count", 2);
        voted(8).then("voter", PLAIN, 0, 1).due(0, "count", 5).due(NO, "undo").due(8, "count", 2);
        Run.sentence(10, "behind one that was refused as BAD, FULL they may");
        voted(3).due(BAD, "ledge", 0, 0, VALLEY).due(BAD, "voter", PLAIN, 1, 1).due(3, "count", 5).due(2, "undo");
        new Run().times(8, "ledge", 60, 0, VALLEY).times(6, "voter", PLAIN, 7, 1).times(2, "vote", 0)
                .due(FULL, "ledge", 60, 0, VALLEY).due(FULL, "voter", PLAIN, 7, 1).due(1, "undo").due(0, "undo");
        Run.sentence(10, "behind a mountain that was told anew, that was read, none may be");
        voted(2).then("mountain").due(NO, "undo");
        voted(2).told(1, "mountain;").due(NO, "undo").due(0, "count", 2);
        Run.sentence(10, "behind a FAULT they may");
        voted(2).typed("mountain;ledge 5 0;voter 0 0 0;").due(-39, "read").due(1, "undo").due(0, "undo");
        Run.sentence(10, "behind what is only asked, seen, typed they may");
        voted(2).then("february", 0).then("orders", 0, NONE).then("stones", 0, 0).then("nights", 0, 9)
                .then("buried", 0, 20).then("februaries", 9, 60).then("seen", 1, 1).then("forget").then("type", 1)
                .then("clear").due(2, "count", 5).due(1, "undo");
    }

    private static void of() {
        Run.sentence(11, "BAD: -10");
        Run r = new Run().due(BAD_TEN, "of", 0, 0).due(BAD_TEN, "of", -1, 0).times(8, "ledge", 60, 7, VALLEY);
        r.due(BAD_TEN, "of", 8, 0).due(BAD_TEN, "of", -1, 0).due(BAD_TEN, "of", 7, 4).due(BAD_TEN, "of", 7, -1);
        r.status(6, 0, 0).due(60, "of", 7, 0).due(7, "of", 7, 1).due(0, "of", 7, 2).due(NONE, "of", 7, 3);
        Run.sentence(11, "LEDGE below (3; NONE), which is not refused");
        r.status(6, 0, 0);
    }

    private static void about() {
        Run.sentence(12, "BAD: no VOTERS, another VOTER, another what");
        Run r = new Run().due(BAD, "about", 0, 0).then("ledge", 60, 0, VALLEY).due(BAD, "about", 0, 0);
        r.times(6, "voter", LOUD, 0, 9).due(BAD, "about", 6, 0).due(BAD, "about", -1, 0);
        r.due(BAD, "about", 5, 5).due(BAD, "about", 5, -1).status(6, 0, 0);
        r.due(LOUD, "about", 5, 0).due(0, "about", 5, 1).due(9, "about", 5, 2).due(0, "about", 5, 3);
        r.due(18, "about", 5, 4).status(6, 0, 0);
    }

    private static void winner() {
        Run.sentence(13, "the LEDGE that came down first (since the mountain was told)");
        Run r = new Run().then("ledge", 1, 1, VALLEY).then("ledge", 5, 5, VALLEY).then("voter", PLAIN, 1, 1);
        r.then("voter", PLAIN, 0, 1).due(NONE, "winner").due(2, "vote", 0).due(1, "winner").due(1, "vote", 1);
        r.due(1, "winner").then("mountain").due(NONE, "winner").then("ledge", 1, 1, VALLEY).due(1, "night", 1);
        r.due(0, "winner").told(1, "mountain;").due(NONE, "winner").status(0, 0, 0);
        Run.sentence(13, "the last of eight LEDGES");
        new Run().times(7, "ledge", 9, 0, VALLEY).then("ledge", 1, 1, VALLEY).due(128, "night", 1).due(7, "winner")
                .due(128, "coalition");
    }

    private static void coalition() {
        Run.sentence(14, "0: no WINNER");
        new Run().due(0, "coalition").then("ledge", 1, 1, VALLEY).due(0, "coalition").due(0, "february", 1);
        Run.sentence(14, "LEDGES (bits) that came down in the same VOTE (or night) as that");
        new Run().then("ledge", 60, 3, VALLEY).then("ledge", 1, 1, 0).then("ledge", 4, 1, VALLEY)
                .due(0, "coalition").due(2, "night", 1).due(2, "coalition").due(6, "night", 3).due(2, "coalition")
                .then("undo").due(2, "coalition").then("undo").due(0, "coalition");
    }

    private static void february() {
        Run.sentence(15, "WINNER (0; NONE), COALITION (1; bits): no LEDGES, no VOTERS, none comes down");
        new Run().due(NONE, "february", 0).due(0, "february", 1).status(0, 0, 0);
        new Run().then("ledge", 1, 0, VALLEY).due(NONE, "february", 0).due(0, "february", 1);
        voted(0).due(NONE, "february", 0).due(0, "february", 1).status(0, 0, 0);
        Run.sentence(15, "BAD");
        voted(0).due(BAD, "february", 2).due(BAD, "february", -1).status(2, 0, 0);
        Run.sentence(15, "all VOTERS VOTE once more, by numbers");
        Run r = new Run().then("ledge", 6, 1, VALLEY).times(6, "voter", PLAIN, 0, 1).due(0, "february", 0);
        r.due(1, "february", 1).due(0, "count", 2).then("undo").status(0, 1, 0);
        new Run().then("ledge", 6, 0, VALLEY).times(6, "voter", PLAIN, 0, 1).due(NONE, "february", 0);
        new Run().then("ledge", 1, 0, VALLEY).then("ledge", 1, 0, VALLEY).then("voter", LOUD, 1, 1)
                .then("voter", LOUD, 0, 1).due(1, "february", 0).due(2, "february", 1);
        Run.sentence(15, "(the one that there is, if there is one)");
        new Run().then("ledge", 1, 1, VALLEY).then("ledge", 1, 0, VALLEY).then("voter", LOUD, 1, 9).then("night", 1)
                .due(0, "winner").due(0, "february", 0).due(1, "february", 1);
    }

    private static void orders() {
        Run.sentence(16, "how many (i = NONE; 0: none)");
        Run r = new Run().then("ledge", 1, 0, VALLEY).then("ledge", 60, 0, VALLEY).due(0, "orders", 0, NONE);
        r.due(NONE, "orders", 0, 0).then("voter", PLAIN, 1, 1).due(0, "orders", 0, NONE).due(0, "orders", 1, NONE);
        Run.sentence(16, "NONE: there is no such order");
        r.due(NONE, "orders", 0, 0).due(NONE, "orders", 0, 1).due(NONE, "orders", 0, 6).status(0, 0, 0);
        r.due(NONE, "orders", 0, Integer.MAX_VALUE);
        Run.sentence(16, "one VOTER, one order");
        r = new Run().then("ledge", 1, 0, VALLEY).then("voter", PLAIN, 0, 2).due(1, "orders", 0, NONE);
        r.due(0, "orders", 0, 0).due(NOT_SO_MANY, "orders", 0, 1).due(NOT_SO_MANY, "orders", 0, 2);
        r.due(NOT_SO_MANY, "orders", 0, 5).due(NOT_SO_MANY, "orders", 0, 6);
        Run.sentence(16, "six VOTERS, 720 orders, the first (rising)");
        r = new Run().then("ledge", 60, 0, VALLEY).then("ledge", 6, 1, VALLEY).times(6, "voter", PLAIN, 1, 1);
        r.due(720, "orders", 1, NONE).due(0, "orders", 0, NONE);
        for (int i = 0; i < 6; i++) {
            r.due(i, "orders", 1, i);
        }
        Run.sentence(16, "-5: not so many");
        r.due(NOT_SO_MANY, "orders", 1, 6).due(NOT_SO_MANY, "orders", 1, 7);
        r.due(NOT_SO_MANY, "orders", 1, Integer.MAX_VALUE).status(0, 0, 0);
        Run.sentence(16, "BAD: -10");
        r.due(BAD_TEN, "orders", 1, -2).due(BAD_TEN, "orders", 2, 0).due(BAD_TEN, "orders", -1, 0).status(3, 0, 0);
        Run.sentence(16, "NO: there is a WINNER");
        r.due(2, "night", 6).due(NO, "orders", 1, NONE).due(NO, "orders", 0, 0).due(NO, "orders", 0, 6);
        r.status(3, 3, 0);
        Run.sentence(16, "the first of: BAD, NO");
        r.due(BAD_TEN, "orders", 2, NONE).due(BAD_TEN, "orders", 0, -2).status(5, 3, 0);
        Run.sentence(16, "the WINNER being undone there are orders again");
        r.then("undo").due(720, "orders", 1, NONE);
        Run.sentence(16, "the first order begins with the last VOTER");
        // Each of the six brings a ledge of its own down: 5 wins in the 120 orders that begin with it.
        r = new Run();
        for (int k = 0; k < 6; k++) {
            r.then("ledge", 1, 0, VALLEY).then("voter", LOUD, k, 1);
        }
        r.due(120, "orders", 5, NONE).due(120, "orders", 0, NONE);
        int[] first = {5, 0, 1, 2, 3, 4};
        for (int i = 0; i < 6; i++) {
            r.due(first[i], "orders", 5, i);
        }
    }

    private static void stones() {
        Run.sentence(17, "the fewest stones of 1 each (1 .. 5)");
        for (int n = 1; n <= 6; n++) {
            Run r = new Run().then("ledge", 60, 0, VALLEY).then("ledge", 20, 21 - n, VALLEY);
            r.due(n <= 5 ? n : NONE, "stones", 1, 0).due(n <= 5 ? 1 : NONE, "stones", 1, 1).status(0, 0, 0);
        }
        Run.sentence(17, "none: NONE, which is not refused");
        new Run().then("ledge", 60, 0, VALLEY).due(NONE, "stones", 0, 0).due(NONE, "stones", 0, 1).status(0, 0, 0);
        Run.sentence(17, "BAD: no LEDGES, another LEDGE, another what");
        Run r = new Run().due(BAD, "stones", 0, 0).times(8, "ledge", 1, 1, VALLEY).due(BAD, "stones", 8, 0);
        r.due(BAD, "stones", -1, 0).due(BAD, "stones", 7, 2).due(BAD, "stones", 7, -1).status(5, 0, 0);
        r.due(1, "stones", 7, 0).due(7, "stones", 7, 1);
        Run.sentence(17, "set one behind the other on any LEDGES, what comes down coming down each time");
        // Five in all: one sets 1 off (5 onto 0), one 2 (5 onto 0), one 3 (5 onto 0), two on 0 itself.
        r = new Run().then("ledge", 16, 0, VALLEY).times(3, "ledge", 4, 4, 0);
        r.due(5, "stones", 0, 0).due(0, "stones", 0, 1);
        r = new Run().then("ledge", 17, 0, VALLEY).times(3, "ledge", 4, 4, 0);
        r.due(NONE, "stones", 0, 0).due(NONE, "stones", 0, 1);
        Run.sentence(17, "the LEDGE on which the first is set in the first such row (rising)");
        r = new Run().then("ledge", 14, 0, VALLEY).times(3, "ledge", 4, 4, 0);
        r.due(3, "stones", 0, 0).due(1, "stones", 0, 1);
        Run.sentence(17, "there may be a WINNER");
        new Run().then("ledge", 1, 1, VALLEY).then("night", 1).due(2, "stones", 0, 0).due(0, "stones", 0, 1);
    }

    private static void buried() {
        Run.sentence(18, "were a stone of n (1 .. 20) set");
        Run r = new Run().then("ledge", 60, 0, VALLEY).then("ledge", 19, 0, 0).then("ledge", 20, 0, 0);
        r.due(0, "buried", 1, 19).due(1, "buried", 1, 20).due(0, "buried", 2, 20).due(0, "buried", 1, 1);
        r.due(BAD, "buried", 1, 0).due(BAD, "buried", 1, 21).due(BAD, "buried", 3, 1).due(BAD, "buried", -1, 1);
        r.status(4, 0, 0).due(0, "count", 3);
        new Run().then("ledge", 60, 0, VALLEY).then("ledge", 1, 1, 0).due(1, "buried", 1, 1);
        Run.sentence(18, "onto which something would come: not the stone itself, nothing from what holds");
        new Run().then("ledge", 1, 0, VALLEY).due(0, "buried", 0, 1).due(0, "buried", 0, 20).status(0, 0, 0);
        Run.sentence(18, "onto all but the highest of eight");
        r = new Run();
        for (int k = 0; k < 8; k++) {
            r.then("ledge", 1, 1, k - 1);
        }
        r.due(127, "buried", 7, 1).due(0, "buried", 0, 1).due(1, "buried", 1, 1).due(8, "count", 3);
        Run.sentence(18, "BAD: no LEDGES");
        new Run().due(BAD, "buried", 0, 1).status(1, 0, 0);
    }

    private static void nights() {
        Run.sentence(19, "in the how manieth of nights (1 .. 60)");
        new Run().then("ledge", 1, 1, VALLEY).due(1, "nights", 0, 1).due(1, "nights", 0, 9);
        new Run().then("ledge", 60, 2, VALLEY).due(59, "nights", 0, 1);
        new Run().then("ledge", 60, 1, VALLEY).due(60, "nights", 0, 1);
        new Run().then("ledge", 60, 0, VALLEY).due(NONE, "nights", 0, 1).due(31, "nights", 0, 2).status(0, 0, 0);
        Run.sentence(19, "SNOW is n (1 .. 9) more");
        new Run().then("ledge", 60, 0, VALLEY).due(7, "nights", 0, 9).due(8, "nights", 0, 8).due(BAD, "nights", 0, 0)
                .due(BAD, "nights", 0, 10).due(BAD, "nights", 1, 1).due(BAD, "nights", -1, 1).status(4, 0, 0);
        Run.sentence(19, "LEDGE k first comes down: one that the first that comes down buries");
        new Run().then("ledge", 60, 0, VALLEY).then("ledge", 30, 0, 0).due(31, "nights", 0, 1)
                .due(31, "nights", 1, 1);
        Run.sentence(19, "what comes down in a night is gone in the next");
        new Run().then("ledge", 60, 0, VALLEY).then("ledge", 1, 0, VALLEY).due(2, "nights", 1, 1)
                .due(NONE, "nights", 0, 1).due(0, "count", 3).due(0, "count", 5);
        Run.sentence(19, "BAD: no LEDGES");
        new Run().due(BAD, "nights", 0, 1).status(1, 0, 0);
    }

    private static void parties() {
        Run.sentence(20, "n (1 .. 4) stones in all: 2 it does, 1 neither by then");
        Run r = new Run().then("ledge", 9, 9, VALLEY).then("ledge", 60, 0, VALLEY);
        r.due(2, "parties", 0, 1, 1, 0).due(0, "parties", 0, 1, 1, 1).due(2, "parties", 0, 1, 4, 0);
        r = new Run().then("ledge", 60, 0, VALLEY).then("ledge", 9, 8, VALLEY).then("ledge", 60, 0, VALLEY);
        r.due(1, "parties", 1, 2, 1, 0).due(0, "parties", 1, 2, 1, 1).due(1, "parties", 1, 2, 2, 0);
        r.due(2, "parties", 1, 2, 3, 0).due(1, "parties", 1, 2, 3, 1).due(2, "parties", 1, 2, 4, 0);
        Run.sentence(20, "0 the other one does: b has a stone only from two on");
        r.due(1, "parties", 2, 1, 1, 0).due(1, "parties", 2, 1, 2, 0).due(1, "parties", 2, 1, 3, 0);
        r.due(0, "parties", 2, 1, 4, 0).due(0, "parties", 2, 1, 4, 1).due(0, "parties", 2, 1, 2, 1);
        r = new Run().then("ledge", 60, 0, VALLEY).then("ledge", 9, 9, VALLEY);
        r.due(1, "parties", 0, 1, 1, 0).due(0, "parties", 0, 1, 1, 1).due(0, "parties", 0, 1, 2, 0);
        Run.sentence(20, "(both by one stone: the one that comes down first)");
        r = new Run().then("ledge", 5, 0, VALLEY).then("ledge", 5, 5, 0);
        r.due(2, "parties", 1, 0, 1, 0).due(1, "parties", 1, 0, 1, 1).due(1, "parties", 0, 1, 1, 0);
        r.due(0, "parties", 0, 1, 1, 1).due(0, "parties", 0, 1, 2, 0);
        Run.sentence(20, "a's own stone may help b, so a sets it elsewhere (the least by which it is so)");
        r = new Run().then("ledge", 1, 1, VALLEY).then("ledge", 60, 0, VALLEY);
        r.due(1, "parties", 1, 0, 1, 0).due(1, "parties", 1, 0, 1, 1).due(0, "parties", 1, 0, 2, 0);
        r.due(0, "parties", 1, 0, 2, 1);
        Run.sentence(20, "BAD: -10: alike, too");
        r.due(BAD_TEN, "parties", 0, 0, 1, 0).due(BAD_TEN, "parties", 1, 1, 1, 0).due(BAD_TEN, "parties", 0, 2, 1, 0);
        r.due(BAD_TEN, "parties", 2, 0, 1, 0).due(BAD_TEN, "parties", 0, 1, 0, 0).due(BAD_TEN, "parties", 0, 1, 5, 0);
        r.due(BAD_TEN, "parties", 0, 1, 1, -1).due(BAD_TEN, "parties", 0, 1, 1, 2).status(8, 0, 0);
        Run.sentence(20, "one LEDGE alone has no other");
        new Run().then("ledge", 1, 1, VALLEY).due(BAD_TEN, "parties", 0, 0, 1, 0).due(BAD_TEN, "parties", 0, 1, 1, 0)
                .status(2, 0, 0);
    }

    private static void seen() {
        Run.sentence(21, "a LOAD of v (0 .. 99) (1), came down by it (0)");
        new Run().due(BAD, "seen", -1, 0).due(1, "seen", 0, 0).due(2, "seen", 99, 1).due(BAD, "seen", 100, 0)
                .due(BAD, "seen", 0, -1).due(BAD, "seen", 0, 2).due(2, "count", 4).status(4, 0, 0);
        Run.sentence(21, "FULL: 6");
        Run r = new Run();
        for (int n = 1; n <= 6; n++) {
            r.due(n, "seen", n, 1);
        }
        r.due(FULL, "seen", 50, 1).due(6, "count", 4).due(6, "hold", 1).status(0, 0, 1);
        Run.sentence(21, "the first of: BAD, FULL");
        r.due(BAD, "seen", 100, 1).due(BAD, "seen", 1, 2).status(2, 0, 1);
        Run.sentence(22, "No SEEN: how many there were");
        r.due(6, "forget").due(0, "forget").due(0, "count", 4).due(60, "hold", 0).due(1, "seen", 5, 1);
        r.due(1, "forget").status(2, 0, 1);
    }

    private static void holdBy(int v, int bore, int how, int least) {
        new Run().then("seen", v, bore).due(how, "hold", 0).due(least, "hold", 1).status(0, 0, 0);
    }

    private static void hold() {
        Run.sentence(23, "how many HOLDS 1 .. 60 are so; the least; none");
        new Run().due(60, "hold", 0).due(1, "hold", 1).due(BAD_TEN, "hold", 2).due(BAD_TEN, "hold", -1)
                .status(2, 0, 0);
        Run.sentence(23, "bore a LOAD of v");
        holdBy(0, 1, 60, 1);
        holdBy(1, 1, 60, 1);
        holdBy(2, 1, 59, 2);
        holdBy(59, 1, 2, 59);
        holdBy(60, 1, 1, 60);
        holdBy(61, 1, 0, NONE);
        holdBy(99, 1, 0, NONE);
        Run.sentence(23, "came down by it");
        holdBy(0, 0, 0, NONE);
        holdBy(1, 0, 0, NONE);
        holdBy(2, 0, 1, 1);
        holdBy(60, 0, 59, 1);
        holdBy(61, 0, 60, 1);
        holdBy(99, 0, 60, 1);
        Run.sentence(23, "all that was seen, in any order");
        new Run().then("seen", 10, 1).then("seen", 11, 0).due(1, "hold", 0).due(10, "hold", 1)
                .then("seen", 5, 1).then("seen", 40, 0).due(1, "hold", 0).due(10, "hold", 1)
                .then("seen", 10, 0).due(0, "hold", 0).due(NONE, "hold", 1);
    }

    private static void stickBetween(int least, int below, int want) {
        new Run().then("seen", least, 1).then("seen", below, 0).due(want, "stick").status(0, 0, 0);
    }

    private static void stick() {
        Run.sentence(24, "the LOAD v (0 .. 60) by which, bearing it or not, the greater part of these is least");
        new Run().due(31, "stick");
        stickBetween(1, 3, 2);
        stickBetween(59, 61, 60);
        stickBetween(58, 61, 59);
        Run.sentence(24, "of like ones the least");
        stickBetween(10, 13, 11);
        stickBetween(10, 15, 12);
        stickBetween(10, 14, 12);
        Run.sentence(24, "one alone is so: 0 parts it as well as any");
        stickBetween(60, 61, 0);
        stickBetween(1, 2, 0);
        Run.sentence(24, "none: none is so");
        stickBetween(10, 10, NONE);
        new Run().then("seen", 0, 0).due(NONE, "stick").then("forget").due(31, "stick");
        new Run().then("seen", 61, 1).due(NONE, "stick").status(0, 0, 0);
    }

    private static void is() {
        Run.sentence(25, "a stone of w (1 .. 20)");
        Run r = new Run().then("ledge", 60, 0, VALLEY).then("voter", PLAIN, 0, 1).then("voter", LOUD, 0, 9);
        r.due(1 + 2 + 8 + 16, "is", 0, 0, 1).due(4 + 32, "is", 0, 0, 2).due(0, "is", 0, 0, 20);
        r.due(4 + 32, "is", 1, 0, 18).due(0, "is", 1, 0, 19).due(8, "is", 1, 0, 5).due(1 + 2 + 16, "is", 1, 0, 9);
        r.due(BAD, "is", 0, 0, 0).due(BAD, "is", 0, 0, 21).due(BAD, "is", 2, 0, 1).due(BAD, "is", -1, 0, 1);
        r.due(BAD, "is", 0, 1, 1).due(BAD, "is", 0, -1, 1).status(6, 0, 0);
        Run.sentence(25, "now: by LOADS and VOTES that there are");
        r = new Run().then("ledge", 9, 4, VALLEY).then("ledge", 30, 9, 0).then("voter", PLAIN, 1, 4);
        r.due(1 + 2, "is", 0, 1, 4).due(16, "is", 0, 0, 4).due(4 + 32, "is", 0, 1, 8).then("vote", 0).then("vote", 0);
        r.due(4 + 32, "is", 0, 1, 8).then("vote", 0).then("night", 9).due(1, "is", 0, 1, 4).due(2 + 16, "is", 0, 0, 4);
        Run.sentence(25, "BAD: no VOTERS, no LEDGES");
        new Run().due(BAD, "is", 0, 0, 1).then("ledge", 1, 0, VALLEY).due(BAD, "is", 0, 0, 1).status(2, 0, 0);
    }

    private static Run six(int holds) {
        return new Run().then("ledge", holds, 0, VALLEY).times(6, "voter", PLAIN, 0, 1);
    }

    private static void chance(Run r, int k, int c, long above, long below) {
        r.due(1, "sneeze", k, c).due(above, "part", 0).due(below, "part", 1);
    }

    private static void sneeze() {
        Run.sentence(26, "by c of 10 (0 .. 10)");
        Run r = six(5);
        chance(r, 0, 0, 1, 1);
        chance(r, 0, 1, 531441, 1000000);
        chance(r, 0, 9, 1, 1000000);
        chance(r, 0, 10, 0, 1);
        Run any = new Run().then("ledge", 1, 0, VALLEY).times(6, "voter", PLAIN, 0, 2);
        chance(any, 0, 0, 1, 1);
        chance(any, 0, 1, 999999, 1000000);
        chance(any, 0, 9, 468559, 1000000);
        chance(any, 0, 10, 0, 1);
        r.due(BAD, "sneeze", 0, -1).due(BAD, "sneeze", 0, 11).due(BAD, "sneeze", 1, 0).due(BAD, "sneeze", -1, 0);
        r.status(4, 0, 0).due(0, "part", 0).due(1, "part", 1).due(0, "count", 2).due(NONE, "winner");
        Run.sentence(26, "lowest terms, below above 0");
        chance(six(5), 0, 5, 1, 64);
        chance(six(5), 0, 2, 4096, 15625);
        chance(six(6), 0, 0, 0, 1);
        chance(six(1), 0, 5, 57, 64);
        Run.sentence(26, "no VOTERS: none can win, or the one has won that there is");
        chance(new Run().then("ledge", 1, 0, VALLEY), 0, 5, 0, 1);
        r = new Run().then("ledge", 1, 1, VALLEY).then("ledge", 60, 1, VALLEY).then("night", 1);
        chance(r, 0, 5, 1, 1);
        chance(r, 1, 5, 0, 1);
        Run.sentence(26, "one that sneezes does not VOTE: the number of VOTES is that of the others");
        // 1 comes down only if the whip alone votes (evenly, on its own); behind another it goes on the heaviest.
        r = new Run().then("ledge", 60, 9, VALLEY).then("ledge", 1, 0, VALLEY).then("voter", PLAIN, 0, 1)
                .then("voter", WHIP, 1, 1);
        chance(r, 1, 3, 21, 100);
        Run.sentence(26, "BAD: no LEDGES");
        new Run().due(BAD, "sneeze", 0, 0).due(0, "part", 0).due(1, "part", 1).status(1, 0, 0);
    }

    private static void februaries() {
        Run.sentence(27, "a SEED (0 .. 999999), n (0 .. 60) VOTES");
        Run r = new Run().then("ledge", 60, 0, VALLEY).then("voter", PLAIN, 0, 1);
        r.due(0, "februaries", 0, 0).due(0, "februaries", 999999, 0).due(60, "februaries", 0, 60);
        r.due(60, "februaries", 999999, 60).due(1, "februaries", 5, 1);
        r.due(BAD, "februaries", -1, 0).due(BAD, "februaries", 1000000, 0).due(BAD, "februaries", 0, -1);
        r.due(BAD, "februaries", 0, 61).status(4, 0, 0).due(0, "count", 2).due(0, "count", 3).due(0, "count", 5);
        Run.sentence(27, "NO: no VOTERS, no LEDGES");
        r = new Run().due(NO, "februaries", 0, 0).then("ledge", 60, 0, VALLEY).due(NO, "februaries", 0, 0);
        r.due(NO, "februaries", 999999, 60).status(0, 3, 0);
        Run.sentence(27, "the first of: BAD, NO");
        r.due(BAD, "februaries", 1000000, 0).due(BAD, "februaries", 0, 61).status(2, 3, 0);
        Run.sentence(27, "X becomes X times 1103515245 and 12345, by 2147483648 what is left over");
        for (int n = 0; n <= 60; n += 4) {
            februariesBy(999999, n);
            februariesBy(1, n);
            februariesBy(0, n);
        }
        Run.sentence(27, "from now: what is there, what comes down");
        new Run().then("ledge", 5, 2, VALLEY).then("voter", PLAIN, 0, 3).due(2, "februaries", 7, 0)
                .due(5, "februaries", 7, 1).due(0, "februaries", 7, 2).due(3, "februaries", 7, 3)
                .due(NONE, "winner").then("vote", 0).due(0, "februaries", 7, 1);
    }

    /** Six who set 1 .. 6, each on a ledge of 60 alone: worked out here with numbers that never wrap around. */
    private static void februariesBy(int seed, int n) {
        Run r = new Run();
        int[] load = new int[6];
        for (int v = 0; v < 6; v++) {
            r.then("ledge", 60, 0, VALLEY).then("voter", PLAIN, v, v + 1);
        }
        java.math.BigInteger x = java.math.BigInteger.valueOf(seed);
        java.math.BigInteger by = java.math.BigInteger.valueOf(2147483648L);
        int sum = 0;
        for (int i = 0; i < n; i++) {
            x = x.multiply(java.math.BigInteger.valueOf(1103515245L)).add(java.math.BigInteger.valueOf(12345)).mod(by);
            int v = (int) (x.longValue() / 65536 % 6);
            load[v] = load[v] + v + 1 > 60 ? 0 : load[v] + v + 1;
        }
        for (int one : load) {
            sum += one;
        }
        r.due(sum, "februaries", seed, n);
    }

    private static void images() {
        Run.sentence(29, "IMAGES 0, 1");
        new Run().due(BAD, "image", -1).due(1, "image", 0).due(1, "image", 1).due(BAD, "image", 2).status(2, 0, 0);
        Run.sentence(30, "NO: none was kept");
        new Run().due(NO, "from", 0).due(NO, "from", 1).then("image", 0).due(1, "from", 0).due(NO, "from", 1)
                .status(0, 3, 0);
        new Run().then("image", 1).due(NO, "from", 0).due(1, "from", 1).status(0, 1, 0);
        Run.sentence(30, "the first of: BAD, NO");
        new Run().due(BAD, "from", -1).due(BAD, "from", 2).status(2, 0, 0);
        Run.sentence(29, "an IMAGE of nothing is one");
        new Run().then("image", 0).then("ledge", 5, 0, VALLEY).due(1, "from", 0).counts(0, 0, 0, 0, 0, 0, 0);
        Run.sentence(29, "both are apart, and may be kept anew");
        Run r = voted(1).then("image", 0).then("vote", 0).then("image", 1).then("vote", 0);
        r.due(1, "from", 0).due(1, "count", 2).due(1, "from", 1).due(2, "count", 2).then("image", 0).due(1, "from", 0);
        r.due(2, "count", 2).times(3, "vote", 0).then("image", 1).due(1, "from", 0).due(2, "count", 2);
        r.due(1, "from", 1).due(5, "count", 2);
        Run.sentence(30, "it goes on from one, as often as one likes; the IMAGE stays as it was kept");
        r = voted(2).then("image", 0);
        for (int i = 0; i < 3; i++) {
            r.due(1, "from", 0).counts(1, 1, 2, 2, 0, 2, 0).then("vote", 0).then("seen", 9, 1).then("undo");
            r.then("undo").then("night", 9).then("ledge", 9, 9, 0).then("voter", WHIP, 1, 9).then("vote", 1);
        }
    }

    private static void imagesKeep() {
        Run.sentence(30, "IMAGES keep all but them, THE TEXT, THE FRACTION and STATUS");
        Run r = voted(2).typed("abc").then("sneeze", 0, 0).due(BAD, "vote", 9).then("seen", 40, 0).then("image", 0);
        r.then("ledge", 1, 1, VALLEY).due(2, "night", 1).due(1, "winner").then("image", 1).typed("mountain;");
        r.then("voter", LOUD, 1, 1).then("forget").due(1, "sneeze", 1, 4).due(NO, "undo").due(BAD, "vote", 9);
        r.due(1, "from", 0).counts(1, 1, 2, 2, 1, 2, 9).due(NONE, "winner").due(0, "coalition").due(39, "hold", 0);
        r.due(1, "part", 0).due(1, "part", 1).status(2, 1, 0).due(1, "from", 1).due(1, "winner");
        r.due(2, "coalition").counts(2, 1, 2, 3, 1, 1, 9).due(1, "from", 0).due(1, "read").due(0, "count", 0);
        Run.sentence(30, "what may be undone they keep");
        r = voted(9).then("image", 0).times(8, "undo").due(NO, "undo").then("image", 1).due(1, "from", 0);
        for (int i = 1; i <= 8; i++) {
            r.due(9 - i, "undo").due(9 - i, "of", 0, 2);
        }
        r.due(NO, "undo").due(1, "from", 1).due(NO, "undo").due(1, "count", 2);
        r = voted(9).then("image", 0).then("mountain").then("ledge", 50, 30, VALLEY).times(9, "night", 1);
        r.due(1, "from", 0);
        for (int i = 1; i <= 8; i++) {
            r.due(9 - i, "undo").due(9 - i, "of", 0, 2).due(0, "of", 0, 1);
        }
        r.due(NO, "undo");
        Run.sentence(30, "what was SEEN they keep");
        r = new Run().then("seen", 10, 1).then("seen", 20, 0).then("image", 0).then("forget").then("seen", 30, 0);
        r.then("seen", 25, 1).due(5, "hold", 0).due(1, "from", 0).due(10, "hold", 0).due(10, "hold", 1);
        r.due(2, "count", 4);
        Run.sentence(30, "they stay behind mountain, read");
        r = voted(3).then("image", 0).then("mountain").due(1, "from", 0).due(3, "count", 2);
        r.told(1, "mountain;").due(0, "count", 2).due(1, "from", 0).due(2, "undo");
    }

    private static void status() {
        Run.sentence(31, "how many calls were refused as BAD, NO, FULL");
        Run r = new Run().status(0, 0, 0).times(3, "type", 128).times(2, "undo").status(3, 2, 0);
        r.times(9, "ledge", 1, 0, VALLEY).status(3, 2, 1);
        Run.sentence(31, "-1: another what (counts as BAD)");
        r.due(-1, "status", 3).due(-1, "status", -1).status(5, 2, 1);
        Run.sentence(31, "(where others are told they count as these)");
        r.due(BAD_TEN, "of", 8, 0).due(BAD_TEN, "orders", 8, 0).due(BAD_TEN, "parties", 0, 0, 1, 0);
        r.due(BAD_TEN, "hold", 2).status(9, 2, 1);
        Run.sentence(31, "what is NONE, -5, a FAULT is none of these");
        r.due(NONE, "winner").due(NONE, "of", 0, 3).due(NONE, "orders", 0, 0).due(-10, "read").due(NONE, "february", 0);
        r.status(9, 2, 1);
        Run.sentence(31, "it stays behind mountain, read, undo, from");
        r.then("image", 0).then("night", 1).due(0, "undo").then("mountain").due(1, "from", 0).told(1, "mountain;");
        r.status(9, 2, 1);
    }

    private static void count() {
        Run.sentence(32, "BAD: another what");
        new Run().due(BAD, "count", 7).due(BAD, "count", -1).status(2, 0, 0);
        Run.sentence(32, "all full");
        Run r = new Run().times(8, "ledge", 60, 30, VALLEY).times(6, "voter", PLAIN, 7, 1).times(7, "seen", 1, 1);
        r.times(9, "vote", 0).times(151, "type", 32).counts(8, 6, 9, 249, 6, 8, 150);
        Run.sentence(28, "BAD: another what");
        r.due(BAD, "part", 2).due(BAD, "part", -1).status(2, 0, 2);
    }

    private static long hash(long... values) {
        java.math.BigInteger h = java.math.BigInteger.valueOf(1151);
        for (long v : values) {
            h = h.multiply(java.math.BigInteger.valueOf(31)).add(java.math.BigInteger.valueOf(v));
        }
        return h.longValue();
    }

    private static void digest() {
        Run.sentence(33, "nothing is there: the counts, WINNER -1, COALITION 0, THE FRACTION 0 by 1");
        new Run().due(hash(0, 0, 0, 0, 0, 0, 0, -1, 0, 0, 1), "digest");
        Run.sentence(33, "all is full: the number wraps around");
        Run r = new Run().then("type", 1);
        long[] values = new long[7 + 2 + 8 * 4 + 6 * 3 + 6 * 2 + 2];
        int at = 9;
        for (int k = 0; k < 8; k++) {
            r.then("ledge", 60 - k, k, k - 1);
            values[at++] = 60 - k;
            values[at++] = k;
            values[at++] = k == 7 ? 9 : 0;
            values[at++] = k - 1;
        }
        for (int v = 0; v < 6; v++) {
            r.then("voter", v, 7 - v, 9 - v);
            values[at++] = v;
            values[at++] = 7 - v;
            values[at++] = 9 - v;
        }
        for (int i = 0; i < 6; i++) {
            r.then("seen", 99 - i, i % 2);
            values[at++] = 99 - i;
            values[at++] = i % 2;
        }
        values[at++] = 0;
        values[at] = 1;
        System.arraycopy(new long[] {8, 6, 1, 37, 6, 1, 1, -1, 0}, 0, values, 0, 9);
        r.then("vote", 0).due(hash(values), "digest");
        Run.sentence(33, "the WINNER, COALITION, THE FRACTION");
        new Run().then("ledge", 5, 5, VALLEY).then("ledge", 1, 1, 0).then("night", 1).then("sneeze", 0, 5)
                .due(hash(2, 0, 0, 2, 0, 1, 0, 0, 3, 5, 2, 0, -1, 1, 0, 0, 0, 1, 1), "digest");
        Run.sentence(33, "STATUS and IMAGES are not in it");
        new Run().then("type", 128).then("undo").then("image", 0)
                .due(hash(0, 0, 0, 0, 0, 0, 0, -1, 0, 0, 1), "digest");
    }

    private static void lastCall() {
        Run.sentence(31, "An object is used for at most 512 calls");
        new Run().times(511, "type", -1).due(511, "status", 0);
        new Run().times(511, "undo").due(511, "status", 1);
        new Run().then("ledge", 60, 0, VALLEY).then("voter", PLAIN, 0, 1).times(509, "vote", 0).due(509, "count", 2);
        new Run().then("ledge", 60, 0, VALLEY).then("voter", PLAIN, 0, 1).times(509, "vote", 0).due(508, "undo");
    }
}
