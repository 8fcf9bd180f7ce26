/** THE MOUNTAIN told by a TEXT (promise 7): each number's ends, what is full, every byte, every place where it may end. */
public final class TextTest {
    private static final int NONE = -1, NO = -3, FULL = -4;
    private static final int FAULT = -10;
    private static final String BEGUN = "mountain;ledge 5 0;";

    public static void main(String[] args) {
        holds();
        snow();
        ledgeBelow();
        voters();
        figures();
        full();
        wholeText();
        first();
        words();
        everyByte();
        endsTooEarly();
        firstFault();
        takesThePlace();
        allStays();
        Run.finish();
    }

    private static Run read(int items, String text) {
        return new Run().told(items, text).status(0, 0, 0);
    }

    /** The fault is where the mark | stands in the text, which is taken out of it. */
    private static void fault(String marked) {
        int place = marked.indexOf('|');
        faultAt(place, marked.substring(0, place) + marked.substring(place + 1));
    }

    private static void faultAt(int place, String text) {
        new Run().then("ledge", 9, 4, -1).typed(text).due(FAULT - place, "read")
                .counts(1, 0, 0, 4, 0, 0, text.length()).status(0, 0, 0);
    }

    private static void holds() {
        Run.sentence(7, "ledge HOLDS: 1 .. 60");
        read(2, "mountain;ledge 1 0;").due(1, "of", 0, 0);
        read(2, "mountain;ledge 60 0;").due(60, "of", 0, 0);
        fault("mountain;ledge |0 0;");
        fault("mountain;ledge |00 0;");
        fault("mountain;ledge |61 0;");
        fault("mountain;ledge |99 0;");
        Run.sentence(7, "below HOLDS: 1 .. 60");
        read(3, BEGUN + "below 1 0 0;").due(1, "of", 1, 0);
        read(3, BEGUN + "below 60 0 0;").due(60, "of", 1, 0);
        fault(BEGUN + "below |0 0 0;");
        fault(BEGUN + "below |61 0 0;");
    }

    private static void snow() {
        Run.sentence(7, "ledge SNOW: 0 .. 30");
        read(2, "mountain;ledge 5 0;").due(0, "of", 0, 1);
        read(2, "mountain;ledge 5 30;").due(30, "of", 0, 1).due(0, "of", 0, 2);
        fault("mountain;ledge 5 |31;");
        fault("mountain;ledge 5 |99;");
        Run.sentence(7, "below SNOW: 0 .. 30");
        read(3, BEGUN + "below 5 0 0;").due(0, "of", 1, 1);
        read(3, BEGUN + "below 5 30 0;").due(30, "of", 1, 1);
        fault(BEGUN + "below 5 |31 0;");
    }

    private static void ledgeBelow() {
        Run.sentence(7, "ledge: into the valley; below: onto LEDGE k");
        read(4, BEGUN + "ledge 6 0;below 7 0 1;").due(NONE, "of", 0, 3).due(NONE, "of", 1, 3).due(1, "of", 2, 3);
        Run.sentence(7, "a LEDGE that is not there yet");
        read(4, BEGUN + "ledge 6 0;below 7 0 0;").due(0, "of", 2, 3);
        fault(BEGUN + "ledge 6 0;below 7 0 |2;");
        fault(BEGUN + "ledge 6 0;below 7 0 |99;ledge 5 0;");
        fault(BEGUN + "below 7 0 |1;");
        fault("mountain;below 7 0 |0;");
        fault("mountain;below 7 0 |0;ledge 5 0;");
        fault("mountain;voter 0 |0 1;");
        fault("mountain;voter 0 |0 1;ledge 5 0;");
        fault(BEGUN + "voter 0 |1 1;ledge 5 0;");
    }

    private static void voters() {
        Run.sentence(7, "voter KIND k STONE: 0 .. 5, a LEDGE, 1 .. 9");
        read(4, BEGUN + "ledge 6 0;voter 0 1 1;").due(0, "about", 0, 0).due(1, "about", 0, 1).due(1, "about", 0, 2);
        read(4, BEGUN + "ledge 6 0;voter 5 0 9;").due(5, "about", 0, 0).due(0, "about", 0, 1).due(9, "about", 0, 2);
        fault(BEGUN + "voter |6 0 1;");
        fault(BEGUN + "voter |10 0 1;");
        fault(BEGUN + "voter 0 |1 1;");
        fault(BEGUN + "voter 0 0 |0;");
        fault(BEGUN + "voter 0 0 |10;");
        fault(BEGUN + "voter 0 0 |99;");
    }

    private static void figures() {
        Run.sentence(7, "figures (1 or 2 are one number)");
        read(3, "mountain;ledge 05 00;voter 03 00 09;").due(5, "of", 0, 0).due(0, "of", 0, 1).due(3, "about", 0, 0)
                .due(9, "about", 0, 2);
        read(2, "mountain;ledge 10 09;").due(10, "of", 0, 0).due(9, "of", 0, 1);
        Run.sentence(7, "a third figure's number");
        fault("mountain;ledge |123 0;");
        fault("mountain;ledge |005 0;");
        fault("mountain;ledge |000 0;");
        fault("mountain;ledge |1234 0;");
        fault("mountain;ledge 5 |000;");
        fault("mountain;ledge 5 |012;");
        fault("mountain;ledge |123;");
        fault("mountain;ledge |123");
        fault(BEGUN + "below 5 0 |000;");
        fault(BEGUN + "voter |000 0 1;");
        fault(BEGUN + "voter 0 |000 1;");
        fault(BEGUN + "voter 0 0 |001;");
        fault("mountain;ledge |" + "1".repeat(40) + " 0;");
    }

    private static void full() {
        Run.sentence(7, "eight LEDGES are taken, a 9th LEDGE at its word");
        String eight = "mountain;" + "ledge 9 0;".repeat(7) + "below 9 0 6;";
        read(9, eight).due(8, "count", 0).due(6, "of", 7, 3);
        fault(eight + "|ledge 9 0;");
        fault(eight + "|below 9 0 0;");
        fault(eight + "|ledge");
        fault(eight + "|ledge 99 99 99;");
        fault(eight + "  |below;");
        fault(eight + "|ledgee 9 0;");
        Run.sentence(7, "six voters are taken, a 7th voter at its word");
        String six = BEGUN + "voter 0 0 1;".repeat(5) + "voter 5 0 9;";
        read(8, six).due(6, "count", 1).due(9, "about", 5, 2);
        fault(six + "|voter 0 0 1;");
        fault(six + "|voter");
        fault(six + "  |voter 9 9 9;");
        Run.sentence(7, "behind six voters a LEDGE may come, behind eight LEDGES a voter");
        read(9, six + "ledge 6 6;").due(2, "count", 0).due(6, "count", 1);
        read(10, eight + "voter 0 7 1;").due(8, "count", 0).due(7, "about", 0, 1);
    }

    private static void wholeText() {
        String all = "mountain;" + "ledge9 0;".repeat(8) + "voter0 7 1;".repeat(5) + "voter5 0 9;";
        Run.sentence(7, "150 bytes at most: a TEXT of 150 is read");
        read(15, all + "   ").counts(8, 6, 0, 0, 0, 0, 150);
        Run.sentence(7, "150 bytes at most: the 151st is not there");
        // Without the refused ; the last item has no end.
        String tooLong = "mountain;" + " ".repeat(131) + "ledge 5 30;";
        new Run().typed(tooLong).due(150, "count", 6).due(FAULT - 150, "read").status(0, 0, 1);
        read(2, "mountain;" + " ".repeat(130) + "ledge 5 30;").due(150, "count", 6);
        Run.sentence(7, "the TEXT's length, if it ends too early: 150");
        faultAt(150, " ".repeat(150));
        faultAt(150, "mountain;ledge 5 0" + " ".repeat(132));
        Run.sentence(7, "a FAULT at the last byte");
        faultAt(149, "mountain;" + " ".repeat(140) + ";");
    }

    private static void first() {
        Run.sentence(7, "mountain (once, first of all)");
        read(1, "mountain;");
        read(1, "   mountain   ;   ");
        fault("mountain;|mountain;");
        fault("mountain;|mountain");
        fault("mountain;ledge 5 0;|mountain;ledge 5 0;");
        fault("mountain;  |mountain;");
        Run.sentence(7, "anything ahead of it");
        fault("|ledge 5 0;mountain;");
        fault("|below 5 0 0;");
        fault("|voter 0 0 1;");
        fault("|;mountain;");
        fault("|5;mountain;");
        fault("  |;mountain;");
        fault("|ledge");
        Run.sentence(7, "an empty one, too");
        faultAt(0, "");
        faultAt(1, " ");
        faultAt(3, "   ");
    }

    private static void words() {
        Run.sentence(7, "a word that is none");
        for (String word : new String[] {"m", "mountai", "mountains", "mountainmountain", "mountainledge", "nountain"}) {
            fault("|" + word + ";");
        }
        for (String word : new String[] {"l", "ledg", "ledges", "ledgf", "kedge", "belo", "belows", "belov", "vote",
            "voters", "votes", "voteq", "uoter", "valley", "a", "z", "ledgebelow"}) {
            fault("mountain;|" + word + " 5 0;");
            fault(BEGUN + "|" + word + " 5 0 0;");
        }
        Run.sentence(7, "a TOKEN that can not stand there");
        fault("mountain|5;");
        fault("mountain |5;");
        fault("mountain |mountain;");
        fault("mountain |ledge 5 0;");
        fault("mountain;|;");
        fault("mountain;|5;");
        fault("mountain;ledge|;");
        fault("mountain;ledge |ledge 5 0;");
        fault("mountain;ledge 5|;");
        fault("mountain;ledge 5 |x;");
        fault("mountain;ledge 5 0 |0;");
        fault("mountain;ledge 5 0|voter 0 0 1;");
        fault("mountain;ledge 5 0|mountain;");
        fault(BEGUN + "below 5 0|;");
        fault(BEGUN + "below 5 0 0 |0;");
        fault(BEGUN + "voter 0 0|;");
        fault(BEGUN + "voter 0 0 1 |1;");
        fault(BEGUN + "|;");
        Run.sentence(7, "blanks (32) between, as many as one likes, or none where a TOKEN ends anyway");
        read(4, "mountain ; ledge  5   0 ;below5 0 0;voter0 1 9 ;").due(2, "count", 0).due(1, "count", 1);
        fault("|moun tain;");
        fault("mountain;ledge 1 2 |3;");
    }

    /** What may stand at a place, among all bytes: all others are at fault there. */
    private static void everyByte() {
        Run.sentence(7, "a byte that begins none, too: in place of a word");
        for (int c = 0; c <= 127; c++) {
            byteBehind("mountain;", c, c == ' ' ? 1 : FAULT - 9);
        }
        Run.sentence(7, "a byte that begins none, too: ahead of all");
        for (int c = 0; c <= 127; c++) {
            byteBehind("", c, c == ' ' ? FAULT - 1 : FAULT);
        }
        Run.sentence(7, "a byte that begins none, too: behind a word");
        for (int c = 0; c <= 127; c++) {
            boolean isLetter = c >= 'a' && c <= 'z';
            byteBehind("mountain", c, c == ';' ? 1 : c == ' ' ? FAULT - 9 : isLetter ? FAULT : FAULT - 8);
        }
        Run.sentence(7, "a byte that begins none, too: in place of a number");
        for (int c = 0; c <= 127; c++) {
            boolean isTaken = c >= '1' && c <= '9' || c == ' ';
            byteBehind("mountain;ledge ", c, isTaken ? FAULT - 16 : FAULT - 15);
        }
        Run.sentence(7, "a byte that begins none, too: behind a number");
        for (int c = 0; c <= 127; c++) {
            boolean isTaken = c >= '0' && c <= '9' || c == ' ';
            byteBehind("mountain;ledge 5", c, isTaken ? FAULT - 17 : FAULT - 16);
        }
        Run.sentence(7, "a byte that begins none, too: in place of an end");
        for (int c = 0; c <= 127; c++) {
            byteBehind("mountain;ledge 5 0 ", c, c == ';' ? 2 : c == ' ' ? FAULT - 20 : FAULT - 19);
        }
    }

    private static void byteBehind(String text, int c, int want) {
        new Run().typed(text).then("type", c).due(want, "read").status(0, 0, 0);
    }

    /** Every place at which a text may be cut off. */
    private static void endsTooEarly() {
        String text = "mountain;ledge 5 0;below 06 1 0;voter 0 1 9;";
        for (int length = 0; length <= text.length(); length++) {
            String cut = text.substring(0, length);
            Run.sentence(7, "the TEXT's length, if it ends too early: '" + cut + "'");
            int start = length;
            while (start > 0 && Character.isLetter(cut.charAt(start - 1))) {
                start--;
            }
            String word = cut.substring(start);
            boolean isCutWord = start < length
                    && !java.util.List.of("mountain", "ledge", "below", "voter").contains(word);
            if (cut.endsWith(";")) {
                new Run().typed(cut).due(cut.chars().filter(c -> c == ';').count(), "read");
            } else if (cut.endsWith("below 0")) {
                // The 0 of 06 is a number that is not as told, if nothing comes behind it.
                faultAt(length - 1, cut);
            } else {
                faultAt(isCutWord ? start : length, cut);
            }
        }
    }

    private static void firstFault() {
        Run.sentence(7, "FAULT: .. of the first TOKEN that can not stand there");
        fault("mountain;ledge |0 99;ledge 0 0;x");
        fault("mountain;ledge 5 |99;mountain;");
        fault("mountain;|x;mountain;");
        fault(BEGUN + "voter |9 9 99;");
        fault(BEGUN + "voter 0 |9 99;");
        fault(BEGUN + "below |0 31 9;");
        fault(BEGUN + "below 9 |31 9;");
        fault("|x mountain;");
    }

    private static void takesThePlace() {
        Run.sentence(7, "A MOUNTAIN that is read takes the place of all but IMAGES, THE TEXT, THE FRACTION, STATUS");
        Run r = new Run().times(8, "ledge", 1, 1, -1).times(6, "voter", 2, 0, 9).times(6, "seen", 9, 1);
        r.then("image", 0).then("night", 1).due(0, "winner").then("image", 1).then("sneeze", 0, 5);
        r.due(FULL, "ledge", 1, 1, -1).told(3, BEGUN + "voter 0 0 1;");
        r.counts(1, 1, 0, 0, 0, 0, 31).due(NONE, "winner").due(0, "coalition").due(1, "part", 0).due(1, "part", 1);
        r.status(0, 0, 1).due(NO, "undo").due(0, "of", 0, 1).due(0, "of", 0, 2).due(0, "vote", 0).due(60, "hold", 0);
        r.due(1, "from", 0).counts(8, 6, 0, 8, 6, 0, 31).due(1, "from", 1).due(0, "winner").due(1, "count", 5);
        Run.sentence(7, "mountain alone: no LEDGES, VOTERS");
        r.told(1, "mountain;").counts(0, 0, 0, 0, 0, 0, 9).due(0, "ledge", 5, 0, -1);
        Run.sentence(7, "THE TEXT stays, and may be read again");
        r = read(2, BEGUN).then("night", 9).due(2, "read").due(0, "count", 3).due(0, "count", 5).due(2, "read");
        Run.sentence(7, "how many ITEMS: mountain is one");
        read(1, "mountain;");
        read(2, BEGUN);
        read(3, BEGUN + "voter 0 0 1;");
    }

    private static void allStays() {
        Run.sentence(7, "-10 less the FAULT: all stays");
        Run r = new Run().then("ledge", 9, 4, -1).then("ledge", 5, 1, 0).then("voter", 2, 1, 2).then("seen", 7, 0);
        r.then("image", 0).then("vote", 0).then("vote", 0).then("sneeze", 1, 3);
        r.typed("mountain;ledge 60 30;below 60 30 0;voter 5 1 9;voter 5 1 0;");
        long before = r.call("digest");
        r.due(FAULT - 57, "read").due(before, "digest").due(1, "winner").due(1, "part", 0).due(59, "count", 6);
        r.due(FAULT - 57, "read").due(1, "undo").due(NONE, "winner").due(4, "of", 1, 2).due(0, "undo").due(NO, "undo");
        r.due(1, "from", 0).due(5, "count", 3).due(9, "of", 0, 0).due(2, "about", 0, 0).status(0, 1, 0);
    }
}
