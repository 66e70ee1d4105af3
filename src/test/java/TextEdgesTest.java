/** The edges of what is told in texts: above each test stands the sentence of the document that it holds. */
public final class TextEdgesTest {
    private static final int NONE = HalvedProof.NONE, UNKNOWN = HalvedProof.UNKNOWN, OUTSIDE = HalvedProof.OUTSIDE;
    private static final int NOT = HalvedProof.NOT, FULL = HalvedProof.FULL;
    private static final int WRONG_SIGN = -11, WRONG_NUMBER = -12, TOO_MANY = -13, TOO_MANY_HERE = -14;
    private static final String SIX_SUITS = "suit 1 1;".repeat(6);
    private static final String SIX_LAWS = "from 0 1 1 1;from 1 1 1 1;from 2 1 1 1;from 3 1 1 1;from 4 1 1 1;from 5 1 1 1;";
    private static final Check CHECK = new Check();

    public static void main(String[] args) {
        bytesToFeed();
        lowestBytesHighestFirst();
        textIsFull();
        courtOfWholeText();
        suitsAtMost();
        need();
        lasts();
        hangsOnSuitToldAhead();
        witnessesAtMost();
        witnessesOfOneSuit();
        suitOfWitness();
        weightOfWitness();
        kinds();
        lawBytes();
        clausesAtMost();
        clauseDays();
        clauseDaysRise();
        copies();
        moons();
        talkers();
        aheadOfAll();
        fromDayOn();
        figuresOfNumbers();
        wordsAreLetters();
        blanksAnywhere();
        blanksWithin();
        sideBySide();
        emptyTexts();
        endOfText();
        firstByteThatHasFault();
        leastOfFaults();
        textIsEmptyThen();
        faultOfLatest();
        numbersFromZeroOn();
        courtStartsAnew();
        courtWithFault();
        lawsWithFault();
        lawsThatAreNone();
        toldBounds();
        CHECK.end();
    }

    private static void due(String call, int got, int want) {
        CHECK.due(call, got, want);
    }

    private static HalvedProof courtIs(String text, int want, int place) {
        HalvedProof x = new HalvedProof();
        due("court '" + text + "'", Check.court(x, text), want);
        due("fault of '" + text + "'", x.fault(), place);
        due("bytes after '" + text + "'", x.told(4), 0);
        return x;
    }

    private static HalvedProof lawsAre(String text, int want, int place) {
        HalvedProof x = new HalvedProof();
        due("laws '" + text + "'", Check.laws(x, text), want);
        due("fault of '" + text + "'", x.fault(), place);
        due("bytes after '" + text + "'", x.told(4), 0);
        return x;
    }

    // "The lowest n bytes (1 .. 8) of a long .. how many it has. OUTSIDE"
    private static void bytesToFeed() {
        HalvedProof x = new HalvedProof();
        for (int n : new int[] {0, 9, -1, 10, 64, Integer.MIN_VALUE, Integer.MAX_VALUE}) {
            due("feed " + n, x.feed(n, 0), OUTSIDE);
        }
        due("nothing came", x.told(4), 0);
        int all = 0;
        for (int n = 1; n <= 8; n++) {
            all += n;
            due("feed " + n, x.feed(n, 0), all);
            due("bytes", x.told(4), all);
        }
    }

    // "The lowest n bytes (1 .. 8) of a long, the highest of these first, come behind THE TEXT"
    private static void lowestBytesHighestFirst() {
        String text = "suit 987 65;suit 12 345 on 0;witness 1 23 shown;       ";
        for (int n = 1; n <= 8; n++) {
            for (long above : new long[] {0, -1, 0x3b3b3b3b3b3b3b3bL}) {
                HalvedProof x = new HalvedProof();
                for (int from = 0; from + n <= text.length(); from += n) {
                    long bytes = above;
                    for (int i = from; i < from + n; i++) {
                        bytes = bytes << 8 | text.charAt(i);
                    }
                    x.feed(n, bytes);
                }
                due("by " + n, x.court(), 2);
                due("by " + n, x.suit(0, 0), 987);
                due("by " + n, x.suit(1, 1), 345);
                due("by " + n, x.witness(0, 1), 23);
            }
        }
        HalvedProof x = new HalvedProof();
        x.feed(8, 0x7375697420352035L);
        x.feed(1, 0x3bL);
        x.feed(2, 0x20ff);
        due("a byte of 255", x.court(), WRONG_SIGN);
        due("its place", x.fault(), 10);
    }

    private static HalvedProof withBytes(int bytes) {
        HalvedProof x = new HalvedProof();
        Check.feed(x, " ".repeat(bytes));
        due("bytes", x.told(4), bytes);
        return x;
    }

    // "feed: .. FULL (500)"; "What is refused changes nothing."
    private static void textIsFull() {
        for (int n = 1; n <= 8; n++) {
            HalvedProof x = withBytes(501 - n);
            due(n + " to 501", x.feed(n, 0), FULL);
            due(n + " to 501", x.told(4), 501 - n);
            x = withBytes(500 - n);
            due(n + " to 500", x.feed(n, 0), 500);
            due("one more", x.feed(1, 0), FULL);
            due("eight more", x.feed(8, 0), FULL);
            due("OUTSIDE is ahead of FULL", x.feed(0, 0), OUTSIDE);
            due("OUTSIDE is ahead of FULL", x.feed(9, 0), OUTSIDE);
            due("still 500", x.told(4), 500);
        }
        HalvedProof x = withBytes(496);
        due("eight are too many", x.feed(8, -1), FULL);
        due("no byte of them came", x.court(), 0);
        due("then there is room", x.feed(8, -1), 8);
    }

    // "THE COURT is told in a text (500 bytes at most)"
    private static void courtOfWholeText() {
        courtIs(" ".repeat(491) + "suit 7 8;", 1, NONE);
        courtIs("suit 7 8;" + " ".repeat(491), 1, NONE);
        courtIs(" ".repeat(492) + "suit 7 8", WRONG_SIGN, 500);
        courtIs("suit 7 8;" + " ".repeat(490) + ";", WRONG_SIGN, 499);
        courtIs("s".repeat(500), WRONG_SIGN, 0);
        courtIs("suit " + "1".repeat(495), WRONG_NUMBER, 5);
        courtIs("suit" + " ".repeat(496), WRONG_SIGN, 500);
        courtIs(" ".repeat(497) + "sui", WRONG_SIGN, 497);
    }

    // "6 SUITS at most"; "3 a seventh SUIT .. (at its first letter)"
    private static void suitsAtMost() {
        for (int n = 0; n <= 6; n++) {
            HalvedProof x = courtIs("suit 1 1;".repeat(n), n, NONE);
            due("SUITS", x.told(0), n);
            due("the last", x.suit(n - 1, 0), n == 0 ? UNKNOWN : 1);
            due("behind the last", x.suit(n, 0), UNKNOWN);
        }
        courtIs(SIX_SUITS + "suit 1 1;", TOO_MANY, 54);
        courtIs(SIX_SUITS + "   suit 1 1;", TOO_MANY, 57);
        courtIs(SIX_SUITS + "witness 5 1 sworn;suit", TOO_MANY, 72);
        courtIs("suit 1 1;".repeat(12), TOO_MANY, 54);
    }

    // "NEED 1 .. 999"
    private static void need() {
        due("least", courtIs("suit 1 1;", 1, NONE).suit(0, 0), 1);
        due("greatest", courtIs("suit 999 1;", 1, NONE).suit(0, 0), 999);
        courtIs("suit 0 1;", WRONG_NUMBER, 5);
        courtIs("suit 1000 1;", WRONG_NUMBER, 5);
    }

    // "it FALLS L days, 1 .. 399, behind DAY 0"
    private static void lasts() {
        due("least", courtIs("suit 1 1;", 1, NONE).suit(0, 1), 1);
        due("greatest", courtIs("suit 1 399;", 1, NONE).suit(0, 1), 399);
        courtIs("suit 1 0;", WRONG_NUMBER, 7);
        courtIs("suit 1 400;", WRONG_NUMBER, 7);
    }

    // "it HANGS on a SUIT told ahead"; "2 .. a SUIT that was not told yet (at its first)"
    private static void hangsOnSuitToldAhead() {
        for (int s = 0; s < 6; s++) {
            String ahead = "suit 1 1;".repeat(s);
            int place = ahead.length() + 12;
            for (int on = 0; on < s; on++) {
                HalvedProof x = courtIs(ahead + "suit 1 1 on " + on + ";", s + 1, NONE);
                due("HANGS on", x.suit(s, 2), on);
                due("the first HANGS on nothing", x.suit(0, 2), NONE);
            }
            courtIs(ahead + "suit 1 1 on " + s + ";", WRONG_NUMBER, place);
            courtIs(ahead + "suit 1 1 on " + (s + 1) + ";", WRONG_NUMBER, place);
            courtIs(ahead + "suit 1 1 on 00" + s + ";suit 1 1;", WRONG_NUMBER, place);
            due("HANGS on nothing", courtIs(ahead + "suit 1 1;", s + 1, NONE).suit(s, 2), NONE);
        }
    }

    private static String witnesses(int of, int n) {
        return ("witness " + of + " 1 sworn;").repeat(n);
    }

    // "12 WITNESSES at most"; "3 .. a 13th WITNESS .. (at its first letter)"
    private static void witnessesAtMost() {
        String two = "suit 1 1;suit 1 1;suit 1 1;";
        HalvedProof x = courtIs(two + witnesses(0, 6) + witnesses(1, 6), 3, NONE);
        due("WITNESSES", x.told(1), 12);
        due("the last", x.witness(11, 0), 1);
        due("behind the last", x.witness(12, 0), UNKNOWN);
        x = courtIs(two + witnesses(0, 4) + witnesses(1, 4) + witnesses(2, 4), 3, NONE);
        due("WITNESSES", x.told(1), 12);
        due("the last", x.witness(11, 0), 2);
        courtIs(two + witnesses(0, 6) + witnesses(1, 6) + "witness 2 1 sworn;", TOO_MANY, 27 + 12 * 18);
        courtIs(two + witnesses(0, 6) + witnesses(1, 6) + "  witness", TOO_MANY, 29 + 12 * 18);
        courtIs(two + witnesses(0, 6) + witnesses(1, 6) + "suit 1 1;witness", TOO_MANY, 36 + 12 * 18);
        courtIs(two + witnesses(0, 6) + witnesses(1, 6) + "suit 1 1;", 4, NONE);
        due("none", courtIs(two, 3, NONE).told(1), 0);
    }

    // "6 of one SUIT"; "4 a seventh WITNESS of a SUIT (at the S)"
    private static void witnessesOfOneSuit() {
        String two = "suit 1 1;suit 1 1;";
        due("six of the first", courtIs(two + witnesses(0, 6), 2, NONE).suit(0, 5), 63);
        due("six of the second", courtIs(two + witnesses(1, 6), 2, NONE).suit(1, 5), 63);
        due("one of the second", courtIs(two + witnesses(0, 6) + witnesses(1, 1), 2, NONE).suit(1, 5), 64);
        due("none of the second", courtIs(two + witnesses(0, 6), 2, NONE).suit(1, 5), 0);
        courtIs(two + witnesses(0, 7), TOO_MANY_HERE, 18 + 6 * 18 + 8);
        courtIs(two + witnesses(1, 7), TOO_MANY_HERE, 18 + 6 * 18 + 8);
        courtIs(two + witnesses(1, 5) + witnesses(0, 3) + witnesses(1, 2), TOO_MANY_HERE, 18 + 9 * 18 + 8);
        courtIs(two + witnesses(0, 6) + "witness   0", TOO_MANY_HERE, 18 + 6 * 18 + 10);
        courtIs(two + witnesses(0, 6) + "witness 000 1 sworn;", TOO_MANY_HERE, 18 + 6 * 18 + 8);
    }

    // "'witness' S ..: for SUIT S"; "2 .. a SUIT that was not told yet (at its first)"
    private static void suitOfWitness() {
        courtIs("witness 0 1 sworn;", WRONG_NUMBER, 8);
        courtIs("witness 0 1 sworn;suit 1 1;", WRONG_NUMBER, 8);
        for (int n = 1; n <= 6; n++) {
            String suits = "suit 1 1;".repeat(n);
            HalvedProof x = courtIs(suits + "witness " + (n - 1) + " 1 sworn;witness 0 1 sworn;", n, NONE);
            due("the last SUIT", x.witness(0, 0), n - 1);
            due("the first SUIT", x.witness(1, 0), 0);
            courtIs(suits + "witness " + n + " 1 sworn;", WRONG_NUMBER, 9 * n + 8);
            courtIs(suits + "witness 999 1 sworn;", WRONG_NUMBER, 9 * n + 8);
        }
    }

    // "weight 1 .. 99"
    private static void weightOfWitness() {
        due("least", courtIs("suit 1 1;witness 0 1 sworn;", 1, NONE).witness(0, 1), 1);
        due("greatest", courtIs("suit 1 1;witness 0 99 sworn;", 1, NONE).witness(0, 1), 99);
        courtIs("suit 1 1;witness 0 0 sworn;", WRONG_NUMBER, 19);
        courtIs("suit 1 1;witness 0 100 sworn;", WRONG_NUMBER, 19);
    }

    // "kind: 'sworn', 'copied', 'shown', 'against'"; "1 it cannot stand there (a word that cannot: at its first letter)"
    private static void kinds() {
        String[] kinds = {"sworn", "copied", "shown", "against"};
        for (int i = 0; i < 4; i++) {
            due(kinds[i], courtIs("suit 1 1;witness 0 1 " + kinds[i] + ";", 1, NONE).witness(0, 2), i);
            courtIs("suit 1 1;witness 0 1 " + kinds[i] + "s;", WRONG_SIGN, 21);
            courtIs("suit 1 1;witness 0 1 " + kinds[i].substring(1) + ";", WRONG_SIGN, 21);
            courtIs("suit 1 1;witness 0 1 " + kinds[i].substring(0, 4) + ";", WRONG_SIGN, 21);
            courtIs(kinds[i] + ";", WRONG_SIGN, 0);
        }
        for (String word : new String[] {"suit", "witness", "on", "from", "s", "a", "z", "Sworn"}) {
            courtIs("suit 1 1;witness 0 1 " + word + ";", WRONG_SIGN, 21);
        }
        courtIs("suit 1 1;witness 0 1;", WRONG_SIGN, 20);
        courtIs("suit 1 1;witness 0 1 1 sworn;", WRONG_SIGN, 21);
    }

    // "LAWS are told in a text (200 bytes at most)"; "NOT: more than 200 bytes (THE TEXT stays)"
    private static void lawBytes() {
        lawsAre("from 1 2 3 4;" + " ".repeat(187), 1, NONE);
        lawsAre("from 1 2 3 4;" + " ".repeat(186) + ";", WRONG_SIGN, 199);
        lawsAre("from 1 2 3 4" + " ".repeat(188), WRONG_SIGN, 200);
        for (int bytes : new int[] {201, 202, 499, 500}) {
            HalvedProof x = Check.made("suit 5 5;", "from 0 2 3 4;");
            Check.feed(x, "from 0 6 5 6;" + " ".repeat(bytes - 13));
            due(bytes + " bytes", x.laws(), NOT);
            due("THE TEXT stays", x.told(4), bytes);
            due("LAWS stay", x.told(6), 2);
            due("LAWS stay", x.told(2), 1);
            due("no FAULT", x.fault(), NONE);
            due("still too many", x.laws(), NOT);
            due("it is no court", x.court(), WRONG_SIGN);
            due("the court stays", x.told(0), 1);
            due("then it is empty", x.told(4), 0);
            due("and LAWS are none", x.laws(), 0);
        }
    }

    // "6 at most"; "3 .. a seventh 'from' (at its first letter)"
    private static void clausesAtMost() {
        for (int n = 0; n <= 6; n++) {
            due("clauses", lawsAre(SIX_LAWS.substring(0, 13 * n), n, NONE).told(2), n);
        }
        lawsAre(SIX_LAWS + "from 6 1 1 1;", TOO_MANY, 78);
        lawsAre(SIX_LAWS + "  from", TOO_MANY, 80);
    }

    // "from DAY D on, 0 .. 399"
    private static void clauseDays() {
        due("from the first", lawsAre("from 0 5 1 1;", 1, NONE).told(6), 5);
        HalvedProof x = lawsAre("from 399 5 1 1;", 1, NONE);
        due("not yet", x.dusk(398), 398);
        due("not yet", x.told(6), 1);
        due("from the last", x.dusk(1), 399);
        due("from the last", x.told(6), 5);
        lawsAre("from 400 5 1 1;", WRONG_NUMBER, 5);
        lawsAre("from 999 5 1 1;", WRONG_NUMBER, 5);
    }

    // "each above the one ahead"; "4 .. a D that is not above the one ahead (at it)"
    private static void clauseDaysRise() {
        lawsAre("from 7 1 1 1;from 8 1 1 1;", 2, NONE);
        lawsAre("from 7 1 1 1;from 7 1 1 1;", TOO_MANY_HERE, 18);
        lawsAre("from 7 1 1 1;from 6 1 1 1;", TOO_MANY_HERE, 18);
        lawsAre("from 7 1 1 1;from 0 1 1 1;", TOO_MANY_HERE, 18);
        lawsAre("from 0 1 1 1;from   0 1 1 1;", TOO_MANY_HERE, 20);
        lawsAre("from 398 1 1 1;from 399 1 1 1;", 2, NONE);
        lawsAre("from 399 1 1 1;from 399 1 1 1;", TOO_MANY_HERE, 20);
        lawsAre("from 1 1 1 1;from 9 1 1 1;from 5 1 1 1;", TOO_MANY_HERE, 31);
        HalvedProof x = lawsAre("from 9 1 1 1;", 1, NONE);
        due("what was told ahead of them does not count", Check.laws(x, "from 3 1 1 1;"), 1);
    }

    // "a copy counts C, 0 .. 6"
    private static void copies() {
        due("least", lawsAre("from 0 0 1 1;", 1, NONE).told(6), 0);
        due("greatest", lawsAre("from 0 6 1 1;", 1, NONE).told(6), 6);
        lawsAre("from 0 7 1 1;", WRONG_NUMBER, 7);
        due("nothing", Check.made("suit 9 9;witness 0 99 copied;", "from 0 0 1 1;").witness(0, 3), 0);
        due("six times", Check.made("suit 9 9;witness 0 99 copied;", "from 0 6 1 1;").witness(0, 3), 594);
    }

    // "a moon has M days, 1 .. 60"
    private static void moons() {
        due("least", lawsAre("from 0 1 1 1;", 1, NONE).told(7), 1);
        due("greatest", lawsAre("from 0 1 60 1;", 1, NONE).told(7), 60);
        lawsAre("from 0 1 0 1;", WRONG_NUMBER, 9);
        lawsAre("from 0 1 61 1;", WRONG_NUMBER, 9);
    }

    // "T, 1 .. 6, may speak on a day"
    private static void talkers() {
        due("least", lawsAre("from 0 1 1 1;", 1, NONE).told(8), 1);
        due("greatest", lawsAre("from 0 1 1 6;", 1, NONE).told(8), 6);
        lawsAre("from 0 1 1 0;", WRONG_NUMBER, 11);
        lawsAre("from 0 1 1 7;", WRONG_NUMBER, 11);
    }

    private static void lawNow(HalvedProof x, int c, int m, int t) {
        due("C", x.told(6), c);
        due("M", x.told(7), m);
        due("T", x.told(8), t);
    }

    // "Ahead of all: C 1, M 28, T 2."; "HalvedProof(): No SUITS, LAWS as ahead of all; DAY 0."
    private static void aheadOfAll() {
        HalvedProof x = new HalvedProof();
        lawNow(x, 1, 28, 2);
        x.dusk(400);
        lawNow(x, 1, 28, 2);
        x.begin();
        Check.laws(x, "from 1 0 1 1;");
        lawNow(x, 1, 28, 2);
        x.dusk(1);
        lawNow(x, 0, 1, 1);
        x.laws();
        lawNow(x, 1, 28, 2);
    }

    // "from DAY D on"; "6 to 8 C, M, T of THE DAY"
    private static void fromDayOn() {
        HalvedProof x = lawsAre("from 2 2 3 4;from 3 3 4 5;from 5 4 5 6;from 6 5 6 1;from 9 6 7 2;from 200 0 8 3;", 6, NONE);
        int[][] due = {{0, 1, 28, 2}, {1, 1, 28, 2}, {2, 2, 3, 4}, {3, 3, 4, 5}, {4, 3, 4, 5}, {5, 4, 5, 6}, {6, 5, 6, 1},
            {7, 5, 6, 1}, {8, 5, 6, 1}, {9, 6, 7, 2}, {199, 6, 7, 2}, {200, 0, 8, 3}, {399, 0, 8, 3}};
        for (int[] law : due) {
            if (law[0] > 0) {
                x.dusk(law[0] - x.told(3));
            }
            due("DAY", x.told(3), law[0]);
            lawNow(x, law[1], law[2], law[3]);
        }
    }

    // "NUMBERS have one to three figures"; "2 a NUMBER of four figures or more .. (at its first)"
    private static void figuresOfNumbers() {
        due("one", courtIs("suit 7 1;", 1, NONE).suit(0, 0), 7);
        due("two", courtIs("suit 07 1;", 1, NONE).suit(0, 0), 7);
        due("three", courtIs("suit 007 1;", 1, NONE).suit(0, 0), 7);
        courtIs("suit 0007 1;", WRONG_NUMBER, 5);
        courtIs("suit 7 0001;", WRONG_NUMBER, 7);
        courtIs("suit 7 1;suit 7 1 on 0000;", WRONG_NUMBER, 21);
        courtIs("suit 7 1;witness 0000 1 sworn;", WRONG_NUMBER, 17);
        courtIs("suit 7 1;witness 0 0001 sworn;", WRONG_NUMBER, 19);
        lawsAre("from 0000 1 1 1;", WRONG_NUMBER, 5);
        lawsAre("from 000 001 001 001;", 1, NONE);
        lawsAre("from 0 0001 1 1;", WRONG_NUMBER, 7);
        lawsAre("from 0 1 0001 1;", WRONG_NUMBER, 9);
        lawsAre("from 0 1 1 0001;", WRONG_NUMBER, 11);
        // numbers that would be in their bounds if they wrapped around
        courtIs("suit 4294967301 1;", WRONG_NUMBER, 5);
        courtIs("suit 18446744073709551621 1;", WRONG_NUMBER, 5);
        courtIs("suit -5 1;", WRONG_SIGN, 5);
        courtIs("suit +5 1;", WRONG_SIGN, 5);
        courtIs("suit 5/ 1;", WRONG_SIGN, 6);
        courtIs("suit 5: 1;", WRONG_SIGN, 6);
        due("all figures", courtIs("suit 890 267;witness 0 34 sworn;witness 0 15 shown;", 1, NONE).suit(0, 0), 890);
    }

    // "words are letters a .. z side by side"; "1 .. (a word that cannot: at its first letter)"
    private static void wordsAreLetters() {
        for (String text : new String[] {"Suit 1 1;", "SUIT 1 1;", "`suit 1 1;", "{suit 1 1;", "suita 1 1;", "suitz 1 1;", "asuit 1 1;",
            "suits 1 1;", "sui 1 1;", "s 1 1;", "z;", "on 0;", "\u00f3suit 1 1;", "from 1 1 1 1;", "suitwitness"}) {
            courtIs(text, WRONG_SIGN, 0);
        }
        for (String text : new String[] {"suitA 1 1;", "suit` 1 1;", "suit{ 1 1;", "suit_1 1;", "suit\u00e9 1 1;", "suit@ 1 1;", "suit[1 1;"}) {
            courtIs(text, WRONG_SIGN, 4);
        }
        for (String text : new String[] {"From 1 1 1 1;", "fro 1 1 1 1;", "fromm 1 1 1 1;", "suit 1 1;", "witness 0 1 sworn;", "on", "f"}) {
            lawsAre(text, WRONG_SIGN, 0);
        }
        courtIs("suit 1 1;suit 1 1 o 0;", WRONG_SIGN, 18);
        courtIs("suit 1 1;suit 1 1 onn 0;", WRONG_SIGN, 18);
        courtIs("suit 1 1;suit 1 1 oon 0;", WRONG_SIGN, 18);
        courtIs("suit 1 1;suit 1 1 sworn;", WRONG_SIGN, 18);
        courtIs("suit 1 1;witnes 0 1 sworn;", WRONG_SIGN, 9);
        courtIs("suit 1 1;witnesss 0 1 sworn;", WRONG_SIGN, 9);
    }

    // "blanks (32) may stand anywhere"
    private static void blanksAnywhere() {
        HalvedProof x = courtIs("   suit   12   34   ;   suit 5 6   on   0   ;  witness   1   78   against   ;   ", 2, NONE);
        due("NEED", x.suit(0, 0), 12);
        due("L", x.suit(0, 1), 34);
        due("on", x.suit(1, 2), 0);
        due("weight", x.witness(0, 1), 78);
        x = courtIs("suit12 34;suit5 6on0;witness1 78against;", 2, NONE);
        due("L", x.suit(0, 1), 34);
        due("on", x.suit(1, 2), 0);
        due("kind", x.witness(0, 2), 3);
        due("M", lawsAre("  from  0  1  2  3  ;  ", 1, NONE).told(7), 2);
        due("M", lawsAre("from0 1 2 3;from4 5 6 1;", 2, NONE).told(7), 2);
        for (char c : new char[] {0, 9, 10, 13, 31, 33, 160, 255}) {
            courtIs(c + "suit 1 1;", WRONG_SIGN, 0);
            courtIs("suit" + c + "1 1;", WRONG_SIGN, 4);
            courtIs("suit 1" + c + "1;", WRONG_SIGN, 6);
            courtIs("suit 1 1;" + c, WRONG_SIGN, 9);
            lawsAre("from 1 1" + c + "1 1;", WRONG_SIGN, 8);
        }
    }

    // "but within words and NUMBERS"
    private static void blanksWithin() {
        courtIs("su it 1 1;", WRONG_SIGN, 0);
        courtIs("suit 1 1;suit 1 1 o n 0;", WRONG_SIGN, 18);
        courtIs("suit 1 1;witness 0 1 sw orn;", WRONG_SIGN, 21);
        courtIs("suit 1 2 3;", WRONG_SIGN, 9);
        courtIs("suit 1 0 3;", WRONG_NUMBER, 7);
        courtIs("suit 1 1;witness 0 1 2 sworn;", WRONG_SIGN, 21);
        lawsAre("fr om 1 1 1 1;", WRONG_SIGN, 0);
        lawsAre("from 1 1 1 1 1;", WRONG_SIGN, 13);
    }

    // "two words, two NUMBERS side by side need one"
    private static void sideBySide() {
        courtIs("suit 11;", WRONG_SIGN, 7);
        courtIs("suit 1 1;witness 01 sworn;", WRONG_NUMBER, 17);
        courtIs("suit 1 1;witness 00 sworn;", WRONG_SIGN, 20);
        courtIs("suitsuit 1 1;", WRONG_SIGN, 0);
        lawsAre("from 1 1 11;", WRONG_SIGN, 11);
    }

    // "An empty text (or one of blanks alone) has no FAULT."
    private static void emptyTexts() {
        for (int n : new int[] {0, 1, 2, 8, 200}) {
            courtIs(" ".repeat(n), 0, NONE);
            lawsAre(" ".repeat(n), 0, NONE);
        }
        courtIs(" ".repeat(500), 0, NONE);
        HalvedProof x = Check.made("suit 1 1;witness 0 1 sworn;", "from 0 2 3 4;");
        due("no SUITS", x.court(), 0);
        due("no SUITS", x.told(0), 0);
        due("no WITNESSES", x.told(1), 0);
        due("LAWS stay", x.told(2), 1);
        due("no LAWS", Check.laws(x, "  "), 0);
        due("no LAWS", x.told(2), 0);
        due("no FAULT", x.fault(), NONE);
    }

    // "(the end at the text's length)"
    private static void endOfText() {
        String text = "suit 5 5;suit 9 9 on 0;witness 1 7 shown;";
        // what is wrong where if the text ends ahead of byte i: a word that is cut, else the end itself; -1: nothing
        int[] places = {-1, 0, 0, 0, 4, 5, 6, 7, 8, -1, 9, 9, 9, 13, 14, 15, 16, 17, 18, 18, 20, 21, 22, -1,
            23, 23, 23, 23, 23, 23, 30, 31, 32, 33, 34, 35, 35, 35, 35, 35, 40, -1};
        for (int i = 0; i < places.length; i++) {
            HalvedProof x = new HalvedProof();
            int suits = i < 9 ? 0 : i < 23 ? 1 : 2;
            due("ends ahead of " + i, Check.court(x, text.substring(0, i)), places[i] == NONE ? suits : WRONG_SIGN);
            due("ends ahead of " + i, x.fault(), places[i]);
        }
        text = "from 1 2 3 4;";
        for (int i = 1; i < text.length(); i++) {
            lawsAre(text.substring(0, i), WRONG_SIGN, i < 4 ? 0 : i);
            lawsAre(text + text.substring(0, i).replace('1', '5'), WRONG_SIGN, i < 4 ? 13 : 13 + i);
        }
        courtIs("suit 5 5    ", WRONG_SIGN, 12);
        lawsAre("from 1 2 3 4  ", WRONG_SIGN, 14);
    }

    // "FAULTS, at the first byte that has one"
    private static void firstByteThatHasFault() {
        courtIs("suit 0 0;", WRONG_NUMBER, 5);
        courtIs("suit 5 0 on 7 x", WRONG_NUMBER, 7);
        courtIs("suit 5 5 x 1000", WRONG_SIGN, 9);
        courtIs("suit 1000 x", WRONG_NUMBER, 5);
        courtIs("suit 5 5 on 5;x", WRONG_NUMBER, 12);
        courtIs(SIX_SUITS + "x;suit 5 5;", WRONG_SIGN, 54);
        courtIs(SIX_SUITS + "suit 0 0 x", TOO_MANY, 54);
        courtIs("suit 5 5;" + witnesses(0, 6) + "witness 0 0 x", TOO_MANY_HERE, 125);
        courtIs("suit 5 5;suit 5 5;" + witnesses(0, 6) + witnesses(1, 6) + "witness 0 1 sworn;", TOO_MANY, 234);
        courtIs("suit 5 5;suit 5 5;" + witnesses(0, 6) + witnesses(1, 6) + "witness 9 0 x", TOO_MANY, 234);
        lawsAre("from 5 1 1 1;from 5 9 99 9;", TOO_MANY_HERE, 18);
        lawsAre("from 5 7 1 1;from 5 1 1 1;", WRONG_NUMBER, 7);
        lawsAre("from 5 7 61 7;", WRONG_NUMBER, 7);
        lawsAre(SIX_LAWS + "from 5 7 61 7;", TOO_MANY, 78);
    }

    // "of these the least"
    private static void leastOfFaults() {
        courtIs(SIX_SUITS + "suitx", WRONG_SIGN, 54);
        courtIs("suit 5 5;suit 5 5;" + witnesses(0, 6) + witnesses(1, 6) + "witnesses", WRONG_SIGN, 234);
        courtIs("suit 5 5;" + witnesses(0, 6) + "witness 0000 1 sworn;", WRONG_NUMBER, 125);
        courtIs("suit 5 5;" + witnesses(0, 6) + "witness 1 1 sworn;", WRONG_NUMBER, 125);
        lawsAre(SIX_LAWS + "fromm", WRONG_SIGN, 78);
        lawsAre("from 5 1 1 1;from 0005 1 1 1;", WRONG_NUMBER, 18);
        lawsAre("from 399 1 1 1;from 400 1 1 1;", WRONG_NUMBER, 20);
    }

    // "THE TEXT (it is empty then, with a FAULT, too)"
    private static void textIsEmptyThen() {
        HalvedProof x = new HalvedProof();
        due("a FAULT", Check.court(x, "suit 1 1;x"), WRONG_SIGN);
        due("the next text starts anew", x.feed(1, ' '), 1);
        due("of blanks", x.court(), 0);
        due("no byte of the old one is read", Check.court(x, "suit"), WRONG_SIGN);
        due("the end", x.fault(), 4);
        due("a FAULT", Check.laws(x, "from 1 1 1 1;x"), WRONG_SIGN);
        due("no byte of the old one is read", Check.laws(x, "from"), WRONG_SIGN);
        due("the end", x.fault(), 4);
        due("taken", Check.laws(x, "from 1 1 1 1;"), 1);
        due("the next text starts anew", x.feed(2, 0x2020), 2);
    }

    // "fault: The place (from 0 on) of the byte that has the FAULT of the latest court() or laws() that was not NOT; NONE."
    private static void faultOfLatest() {
        HalvedProof x = new HalvedProof();
        due("none yet", x.fault(), NONE);
        Check.feed(x, " ".repeat(201));
        x.laws();
        due("NOT has none", x.fault(), NONE);
        x.court();
        Check.court(x, ";");
        due("from 0 on", x.fault(), 0);
        Check.feed(x, " ".repeat(201));
        due("NOT", x.laws(), NOT);
        due("NOT leaves it", x.fault(), 0);
        x.court();
        due("none", x.fault(), NONE);
        Check.laws(x, " x");
        due("of laws", x.fault(), 1);
        Check.feed(x, "  ;");
        due("no new one by a feed", x.fault(), 1);
        x.begin();
        x.dusk(1);
        due("no new one by days", x.fault(), 1);
        x.court();
        due("of a court", x.fault(), 2);
        Check.laws(x, "from 1 1 1 1;");
        due("laws without one", x.fault(), NONE);
        Check.feed(x, " ".repeat(200) + "x");
        due("NOT", x.laws(), NOT);
        due("NOT leaves none", x.fault(), NONE);
        x.court();
        due("of the same text", x.fault(), 200);
    }

    // "What has a number has it from 0 on, as it comes."
    private static void numbersFromZeroOn() {
        HalvedProof x = courtIs("suit 7 1;witness 0 9 shown;suit 8 2;witness 1 8 sworn;witness 0 7 against;suit 9 3;", 3, NONE);
        for (int s = 0; s < 3; s++) {
            due("NEED of " + s, x.suit(s, 0), 7 + s);
            due("L of " + s, x.suit(s, 1), 1 + s);
        }
        for (int w = 0; w < 3; w++) {
            due("weight of " + w, x.witness(w, 1), 9 - w);
        }
        due("bits 0 and 2", x.suit(0, 5), 5);
        due("bit 1", x.suit(1, 5), 2);
        due("none", x.suit(2, 5), 0);
    }

    // "becomes THE COURT (nothing SAID, DAY 0, nobody STRUCK, no BOOKS, IMAGES are gone; LAWS, THE SEED stay): how many SUITS"
    private static void courtStartsAnew() {
        HalvedProof x = Check.made("suit 1 9;suit 9 1;witness 0 9 sworn;witness 1 5 sworn;", "from 0 2 3 4;");
        x.seed(4711);
        x.say(0);
        x.say(1);
        x.strike(1, true);
        x.write(0, 5);
        x.write(1, 5);
        x.dusk(2);
        x.keep(0);
        x.keep(1);
        due("one SUIT, then two", Check.court(x, "suit 1 9;suit 9 1;witness 0 9 sworn;witness 1 5 sworn;"), 2);
        due("DAY 0", x.told(3), 0);
        due("nobody spoke", x.told(5), 0);
        for (int s = 0; s < 2; s++) {
            due("goes on", x.suit(s, 3), 0);
            due("no end", x.suit(s, 4), NONE);
            due("no WEIGHT", x.weight(s, NONE), 0);
            due("nothing behind the point", x.weight(s, 0), 0);
            due("nothing behind the point", x.weight(s, 1), 0);
            due("no evening", x.evening(s, 0), NONE);
            due("no BOOK", x.tear(s), 0);
            due("no IMAGE", x.goBack(s), NOT);
            due("SAID nothing", x.witness(s, 4), NONE);
            due("SAID nothing", x.witness(s, 5), 0);
            due("not STRUCK", x.witness(s, 6), 0);
            due("may", x.witness(s, 7), 1);
        }
        lawNow(x, 2, 3, 4);
        due("THE SEED stays", x.seed(0), 4711);
    }

    // "court: .. -10 less the number of its FAULT (all else is as it was)"
    private static void courtWithFault() {
        String[] faulty = {"suit 1 1;x", "suit 1 0;", "suit 2 2;".repeat(7), "suit 1 1;" + witnesses(0, 7)};
        for (int i = 0; i < 4; i++) {
            HalvedProof x = Twins.made("");
            HalvedProof y = Twins.made("");
            due("FAULT", Check.court(x, faulty[i]), -11 - i);
            Twins.compare(CHECK, "after a court with FAULT " + (i + 1), x, y);
        }
    }

    // "laws: .. -10 less the number of its FAULT (they are as they were)"
    private static void lawsWithFault() {
        String[] faulty = {"from 0 1 1 1;x", "from 0 7 7 7;", SIX_LAWS + "from", "from 7 1 1 1;from 7 1 1 1;"};
        for (int i = 0; i < 4; i++) {
            HalvedProof x = Check.made("suit 9 9;witness 0 5 copied;", "from 0 2 3 4;from 4 3 5 6;");
            due("FAULT", Check.laws(x, faulty[i]), -11 - i);
            due("clauses", x.told(2), 2);
            lawNow(x, 2, 3, 4);
            x.dusk(4);
            lawNow(x, 3, 5, 6);
        }
    }

    // "laws: THE TEXT .. becomes LAWS: how many clauses" (what was SAID, THE DAY, IMAGES, BOOKS are no LAWS)
    private static void lawsThatAreNone() {
        HalvedProof x = Check.made("suit 9 9;witness 0 5 copied;", "from 0 6 3 4;");
        x.say(0);
        x.write(0, 30);
        x.keep(0);
        x.dusk(1);
        due("none", x.laws(), 0);
        due("WEIGHT stays", x.weight(0, NONE), 15);
        due("DAY stays", x.told(3), 1);
        due("FRESH weight does not", x.witness(0, 3), 5);
        due("BOOK stays", x.judge(0), NONE);
        due("IMAGE stays", x.goBack(0), 1);
        due("and has WEIGHT as it was", x.weight(0, NONE), 30);
        due("but not LAWS", x.told(6), 1);
    }

    // "told: .. 0 SUITS .. 8 .. T of THE DAY. OUTSIDE."
    private static void toldBounds() {
        HalvedProof x = Check.made("suit 9 9;suit 9 9;suit 9 9;" + witnesses(0, 5), "from 0 6 7 4;from 9 1 1 1;");
        x.say(0);
        x.feed(8, 0);
        x.feed(1, 0);
        int[] due = {3, 5, 2, 0, 9, 1, 6, 7, 4};
        for (int i = 0; i < due.length; i++) {
            due("told " + i, x.told(i), due[i]);
        }
        for (int i : new int[] {-1, 9, Integer.MIN_VALUE, Integer.MAX_VALUE}) {
            due("told " + i, x.told(i), OUTSIDE);
        }
    }
}
