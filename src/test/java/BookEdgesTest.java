/** The edges of books, draws, images: above each test stands the sentence of the document that it holds. */
public final class BookEdgesTest {
    private static final int NONE = HalvedProof.NONE, UNKNOWN = HalvedProof.UNKNOWN, OUTSIDE = HalvedProof.OUTSIDE;
    private static final int NOT = HalvedProof.NOT, FULL = HalvedProof.FULL;
    private static final Check CHECK = new Check();

    public static void main(String[] args) {
        eveningsAtMost();
        thirdsOfAnEvening();
        tornBooks();
        wrongInEachPlace();
        wrongOfEveningsThatAreOver();
        wrongOfWholeThirds();
        wrongNone();
        eveningsThatAreOver();
        eveningBounds();
        eveningAheadOfDusk();
        seedBounds();
        seedAtFirst();
        drawBelow();
        drawForEach();
        drawnDays();
        drawnDaysAtMost();
        driftBounds();
        drawnIfItMay();
        imageBounds();
        imageNotKept();
        imagesKeep();
        imagesKeepNot();
        imagesStandAlone();
        imagesAreGone();
        CHECK.end();
    }

    private static void due(String call, int got, int want) {
        CHECK.due(call, got, want);
    }

    // "THE BOOK of a SUIT tells for evenings .. (60 at most)"; "write: .. how many it has. .. FULL (60)"
    private static void eveningsAtMost() {
        HalvedProof x = Check.made("suit 9 9;suit 9 9;", "");
        for (int i = 1; i <= 60; i++) {
            due("evening " + i, x.write(0, i), i);
        }
        due("a 61st", x.write(0, 0), FULL);
        due("once more", x.write(0, 99999), FULL);
        due("OUTSIDE is ahead of FULL", x.write(0, 100000), OUTSIDE);
        due("OUTSIDE is ahead of FULL", x.write(0, -1), OUTSIDE);
        due("the other has its own", x.write(1, 0), 1);
        due("it had 60", x.tear(0), 60);
        due("then it is empty", x.write(0, 7), 1);
    }

    // "An evening (0 .. 99999)"; "OUTSIDE"
    private static void thirdsOfAnEvening() {
        HalvedProof x = Check.made("suit 9 9;", "");
        due("least", x.write(0, 0), 1);
        due("greatest", x.write(0, 99999), 2);
        for (int thirds : new int[] {-1, -2, 100000, Integer.MIN_VALUE, Integer.MAX_VALUE}) {
            due("thirds " + thirds, x.write(0, thirds), OUTSIDE);
        }
        due("two came", x.tear(0), 2);
        x.write(0, 99999);
        x.dusk(1);
        due("it stands there, and is WRONG", x.judge(0), 0);
    }

    // "tear: THE BOOK of a SUIT is empty: how many evenings it had. UNKNOWN."
    private static void tornBooks() {
        HalvedProof x = Check.made("suit 9 9;suit 9 9;", "");
        due("empty at first", x.tear(0), 0);
        x.write(0, 1);
        x.write(1, 1);
        x.write(1, 2);
        due("one", x.tear(0), 1);
        due("none any more", x.tear(0), 0);
        due("the other stays", x.tear(1), 2);
        due("no such", x.tear(2), UNKNOWN);
        due("no such", x.tear(-1), UNKNOWN);
        due("no such", x.write(2, 0), UNKNOWN);
        due("no such, ahead of OUTSIDE", x.write(2, -1), UNKNOWN);
        due("no such, ahead of OUTSIDE", x.write(-1, 100000), UNKNOWN);
        x.write(0, 5);
        x.write(0, 0);
        x.dusk(1);
        due("5 is WRONG", x.judge(0), 0);
        x.tear(0);
        x.write(0, 0);
        due("what was torn does not count", x.judge(0), NONE);
    }

    // "tells for evenings from DAY 0 on"; "WRONG: the first that is other than it was"
    private static void wrongInEachPlace() {
        for (int wrong : new int[] {0, 1, 2, 30, 58, 59}) {
            HalvedProof x = Check.made("suit 999 99;witness 0 99 against;", "from 0 1 10 1;");
            int whole = 0;
            for (int day = 0; day < 60; day++) {
                if (day % 10 == 0) {
                    x.say(0);
                    whole += 594;
                }
                x.write(0, day == wrong || day == 59 ? 7 : whole);
                x.dusk(1);
                whole /= 2;
                due("WRONG is " + wrong, x.judge(0), day < wrong ? NONE : wrong);
            }
            due("the last of 60", x.evening(0, 59), 594 / 512 + 594 / 262144);
            x.dusk(5);
            due("later, too", x.judge(0), wrong);
        }
    }

    // "(of evenings that are over)"
    private static void wrongOfEveningsThatAreOver() {
        HalvedProof x = Check.made("suit 999 99;witness 0 4 sworn;", "");
        x.say(0);
        x.write(0, 12);
        x.write(0, 6);
        x.write(0, 4);
        due("none is over", x.judge(0), NONE);
        x.dusk(2);
        due("two are right, the third is not over", x.judge(0), NONE);
        x.keep(0);
        x.dusk(1);
        due("the third", x.judge(0), 2);
        x.goBack(0);
        due("not over again", x.judge(0), NONE);
        x.begin();
        due("none is over", x.judge(0), NONE);
        x.dusk(1);
        due("nothing was SAID on DAY 0", x.judge(0), 0);
    }

    // "how many whole THIRDS it weighed ahead of DUSK"
    private static void wrongOfWholeThirds() {
        HalvedProof x = Check.made("suit 999 99;suit 999 99;witness 0 7 copied;witness 1 1 sworn;", "");
        x.say(0);
        for (int thirds : new int[] {7, 3, 1, 0, 0}) {
            x.write(0, thirds);
        }
        x.write(1, 0);
        x.write(1, 3);
        x.write(1, 2);
        x.dusk(1);
        x.say(1);
        x.dusk(4);
        due("3.5 is 3, 0.875 is 0", x.judge(0), NONE);
        due("the other SUIT: 1.5 is not 2", x.judge(1), 2);
    }

    // "judge: WRONG; NONE. UNKNOWN."
    private static void wrongNone() {
        HalvedProof x = Check.made("suit 9 1;suit 1 9;witness 0 2 sworn;witness 1 1 sworn;", "");
        x.dusk(1);
        due("an empty BOOK", x.judge(0), NONE);
        x.begin();
        x.say(0);
        x.say(1);
        x.dusk(399);
        for (int thirds : new int[] {6, 3, 1, 0}) {
            x.write(0, thirds);
            x.write(1, thirds / 2);
        }
        due("FELL: weighed on", x.judge(0), NONE);
        due("WON: weighed on", x.judge(1), NONE);
        due("no such", x.judge(2), UNKNOWN);
        due("no such", x.judge(-1), UNKNOWN);
    }

    // "evening: .. NONE: it is not over"
    private static void eveningsThatAreOver() {
        HalvedProof x = Check.made("suit 999 399;witness 0 4 sworn;", "from 0 1 1 1;");
        x.say(0);
        due("DAY 0 on DAY 0", x.evening(0, 0), NONE);
        x.dusk(1);
        due("DAY 0 on DAY 1", x.evening(0, 0), 12);
        due("DAY 1 on DAY 1", x.evening(0, 1), NONE);
        x.say(0);
        x.keep(1);
        x.dusk(397);
        x.say(0);
        due("DAY 398 on DAY 398", x.evening(0, 398), NONE);
        x.dusk(1);
        due("DAY 398 on DAY 399", x.evening(0, 398), 12);
        x.say(0);
        x.dusk(1);
        due("DAY 399 is never over", x.evening(0, 399), NONE);
        due("DAY 1", x.evening(0, 1), 18);
        x.goBack(1);
        due("DAY 0 again", x.evening(0, 0), 12);
        due("DAY 1 is not over again", x.evening(0, 1), NONE);
        due("DAY 398 is not over again", x.evening(0, 398), NONE);
        x.begin();
        due("none is over", x.evening(0, 0), NONE);
        x.dusk(2);
        due("nothing was SAID", x.evening(0, 1), 0);
    }

    // "UNKNOWN, OUTSIDE (0 .. 399)"
    private static void eveningBounds() {
        HalvedProof x = Check.made("suit 9 9;", "");
        x.dusk(399);
        due("the first", x.evening(0, 0), 0);
        due("the last", x.evening(0, 399), NONE);
        for (int day : new int[] {-1, 400, 401, Integer.MIN_VALUE, Integer.MAX_VALUE}) {
            due("DAY " + day, x.evening(0, day), OUTSIDE);
            due("no such SUIT", x.evening(1, day), UNKNOWN);
        }
        due("no such SUIT", x.evening(1, 0), UNKNOWN);
        due("no such SUIT", x.evening(-1, 0), UNKNOWN);
    }

    // "How many whole THIRDS a SUIT weighed ahead of the DUSK of a DAY"
    private static void eveningAheadOfDusk() {
        HalvedProof x = Check.made("suit 999 9;suit 3 9;witness 0 1 sworn;witness 0 1 sworn;witness 1 3 sworn;", "from 0 1 9 6;");
        x.say(0);
        x.dusk(1);
        x.say(1);
        x.say(2);
        x.dusk(2);
        int[][] want = {{3, 4, 2}, {0, 9, 4}};
        for (int s = 0; s < 2; s++) {
            for (int day = 0; day < 3; day++) {
                due("SUIT " + s + " on DAY " + day, x.evening(s, day), want[s][day]);
            }
        }
    }

    // "seed: THE SEED becomes v (0 .. 2147483647): what it was. OUTSIDE."
    private static void seedBounds() {
        HalvedProof x = new HalvedProof();
        due("what it was", x.seed(2147483647), 0);
        due("greatest", x.seed(0), 2147483647);
        due("least", x.seed(1), 0);
        due("below", x.seed(-1), OUTSIDE);
        due("far below", x.seed(Integer.MIN_VALUE), OUTSIDE);
        due("nothing changed", x.seed(5), 1);
    }

    // "THE SEED (0 at first ..)"
    private static void seedAtFirst() {
        HalvedProof x = Check.made("suit 999 9;witness 0 1 sworn;", "");
        x.drift(1, 0);
        due("one DRAW from 0", x.seed(0), 12345);
        x.begin();
        x.drift(2, 0);
        due("two DRAWS from 0", x.seed(0), (int) next(12345));
    }

    private static long next(long seed) {
        return (seed * 1103515245L + 12345L) % 2147483648L;
    }

    private static int seedThatDraws(int drawn) {
        for (int seed = 0; seed < 1000000; seed++) {
            if (next(seed) / 65536 % 100 == drawn) {
                return seed;
            }
        }
        return NONE;
    }

    // "with a DRAW of 100 below q"; "the DRAW of n is it / 65536, left over by n"
    private static void drawBelow() {
        for (int drawn : new int[] {0, 1, 49, 50, 98, 99}) {
            int seed = seedThatDraws(drawn);
            HalvedProof x = Check.made("suit 999 99;witness 0 1 sworn;", "from 0 1 1 1;");
            x.seed(seed);
            due(drawn + " is not below itself", x.drift(1, drawn), 0);
            x.seed(seed);
            due(drawn + " is below the next", x.drift(1, drawn + 1), 1);
            x.seed(seed);
            due(drawn + " is not below 0", x.drift(1, 0), 0);
            x.seed(seed);
            due(drawn + " is below 100", x.drift(1, 100), 1);
        }
    }

    // "a day: each WITNESS in order, with a DRAW": who may not, too; "each DRAW it becomes it times 1103515245 and 12345, left over by 2 to the 31"
    private static void drawForEach() {
        for (int seed : new int[] {0, 1, 77, 123456789, 2147483646, 2147483647}) {
            HalvedProof x = Check.made("suit 999 99;suit 9 1;suit 1 9;" + "witness 0 1 sworn;".repeat(5) + "witness 1 1 sworn;witness 2 1 sworn;",
                    "from 0 1 3 2;");
            x.say(6);
            x.dusk(2);
            x.strike(2, true);
            x.seed(seed);
            long now = seed;
            for (int day = 2; day < 8; day++) {
                for (int w = 0; w < 7; w++) {
                    now = next(now);
                }
                x.drift(1, 50);
                int left = x.seed((int) now);
                due("THE SEED, seven DRAWS on", left, (int) now);
            }
        }
    }

    // "BY DRAWS: .. a day: each WITNESS in order .. speaks, if it MAY; then DUSK"; "drift: n days BY DRAWS with q .. how many spoke"
    private static void drawnDays() {
        for (int q : new int[] {1, 30, 60, 99}) {
            String court = "suit 999 399;" + "witness 0 9 sworn;".repeat(6);
            HalvedProof x = Check.made(court, "from 0 1 2 2;");
            HalvedProof y = Check.made(court, "from 0 1 2 2;");
            x.seed(4321);
            long now = 4321;
            int spoke = 0;
            for (int day = 0; day < 30; day++) {
                for (int w = 0; w < 6; w++) {
                    now = next(now);
                    if (now / 65536 % 100 < q && y.say(w) != NOT) {
                        spoke++;
                    }
                }
                y.dusk(1);
            }
            due("how many spoke", x.drift(30, q), spoke);
            due("DAY", x.told(3), 30);
            for (int w = 0; w < 6; w++) {
                due("how often " + w, x.witness(w, 5), y.witness(w, 5));
                due("last day of " + w, x.witness(w, 4), y.witness(w, 4));
            }
            for (int day = 0; day < 30; day++) {
                due("evening " + day, x.evening(0, day), y.evening(0, day));
            }
        }
    }

    // "drift: .. to DAY 399 at the most"
    private static void drawnDaysAtMost() {
        HalvedProof x = Check.made("suit 999 399;witness 0 1 sworn;witness 0 1 sworn;", "from 0 1 1 6;");
        x.dusk(339);
        due("60 days of two", x.drift(60, 100), 120);
        due("DAY 399", x.told(3), 399);
        int left = x.seed(9);
        due("there is no day BY DRAWS any more", x.drift(1, 100), 0);
        due("nor sixty", x.drift(60, 100), 0);
        due("no DRAW is made", x.seed(0), 9);
        due("DAY 399", x.told(3), 399);
        due("nobody spoke on it", x.told(5), 0);
        x.begin();
        x.dusk(340);
        due("59 days of two", x.drift(60, 100), 118);
        due("DAY 399", x.told(3), 399);
        long now = 0;
        for (int i = 0; i < 118; i++) {
            now = next(now);
        }
        due("118 DRAWS", x.seed(0), (int) now);
        now = next(next(now));
        due("120 DRAWS", left, (int) now);
        x.begin();
        x.dusk(398);
        due("one day of two", x.drift(2, 100), 2);
    }

    // "n days (1 .. 60) .. q (0 .. 100) .. OUTSIDE"
    private static void driftBounds() {
        HalvedProof x = Check.made("suit 999 399;witness 0 1 sworn;", "from 0 1 1 6;");
        for (int n : new int[] {0, 61, -1, Integer.MIN_VALUE, Integer.MAX_VALUE}) {
            due("days " + n, x.drift(n, 50), OUTSIDE);
        }
        for (int q : new int[] {-1, 101, Integer.MIN_VALUE, Integer.MAX_VALUE}) {
            due("q " + q, x.drift(1, q), OUTSIDE);
        }
        due("DAY 0", x.told(3), 0);
        due("no DRAW was made", x.seed(0), 0);
        due("one day, nobody", x.drift(1, 0), 0);
        due("DAY 1", x.told(3), 1);
        due("sixty days, all", x.drift(60, 100), 60);
        due("DAY 61", x.told(3), 61);
        x.dusk(338);
        due("DAY 399", x.told(3), 399);
        due("on DAY 399, too", x.drift(61, 0), OUTSIDE);
        due("on DAY 399, too", x.drift(1, 101), OUTSIDE);
    }

    // "speaks, if it MAY" (T, moons, STRIKES, SUITS that go on)
    private static void drawnIfItMay() {
        HalvedProof x = Check.made("suit 2 9;suit 999 9;" + "witness 0 1 sworn;".repeat(4) + "witness 1 1 shown;witness 1 1 sworn;", "from 0 1 3 6;");
        x.strike(0, true);
        due("1 and 2 win; 4, 5", x.drift(1, 100), 4);
        due("STRUCK", x.witness(0, 5), 0);
        due("too late", x.witness(3, 5), 0);
        due("WON on DAY 0", x.suit(0, 4), 0);
        due("in its moon, showed", x.drift(2, 100), 0);
        due("its moon is over", x.drift(1, 100), 1);
        due("the one that shows", x.witness(4, 5), 1);
        due("FELL", x.drift(9, 100), 2);
        due("it spoke last", x.witness(5, 4), 9);
        x = Check.made("suit 999 9;" + "witness 0 1 sworn;".repeat(4), "");
        due("T: two, then the other two", x.drift(2, 100), 4);
        due("in order", x.witness(1, 4), 0);
        due("in order", x.witness(2, 4), 1);
        x.begin();
        x.say(3);
        due("T counts who spoke ahead of the DRAWS", x.drift(1, 100), 1);
        due("the first", x.witness(0, 4), 0);
    }

    // "IMAGES 0, 1"; "UNKNOWN (a SUIT, WITNESS, IMAGE that there is not)"
    private static void imageBounds() {
        HalvedProof x = new HalvedProof();
        for (int i : new int[] {-1, 2, Integer.MIN_VALUE, Integer.MAX_VALUE}) {
            due("keep " + i, x.keep(i), UNKNOWN);
            due("goBack " + i, x.goBack(i), UNKNOWN);
        }
        due("not kept", x.goBack(0), NOT);
        due("not kept", x.goBack(1), NOT);
        for (int i = 0; i < 2; i++) {
            due("keep " + i, x.keep(i), 1);
            due("goBack " + i, x.goBack(i), 1);
        }
    }

    // "goBack: .. NOT: it was not kept"
    private static void imageNotKept() {
        for (int i = 0; i < 2; i++) {
            HalvedProof x = Check.made("suit 9 9;", "");
            x.dusk(2);
            x.keep(i);
            x.dusk(1);
            due("the other was not", x.goBack(1 - i), NOT);
            due("DAY stays", x.told(3), 3);
            due("this was", x.goBack(i), 1);
            due("its DAY", x.told(3), 2);
            due("the other was not", x.goBack(1 - i), NOT);
        }
    }

    private static HalvedProof busy() {
        HalvedProof x = Check.made("suit 9 20;suit 2 20;suit 9 1;witness 0 5 sworn;witness 1 2 sworn;witness 0 1 shown;witness 2 1 sworn;", "from 0 1 4 2;");
        x.seed(31);
        x.say(0);
        x.dusk(1);
        x.say(2);
        x.dusk(1);
        x.strike(0, true);
        x.say(1);
        return x;
    }

    private static void isBusy(HalvedProof x) {
        int[] told = {3, 4, 1, 2, 0, 1};
        for (int i = 0; i < told.length; i++) {
            due("told " + i, x.told(i), told[i]);
        }
        int[][] suits = {{0, NONE, 5, 0, 1}, {1, 2, 6, 0, 0}, {2, 1, 0, 0, 0}};
        for (int s = 0; s < 3; s++) {
            due("how it is", x.suit(s, 3), suits[s][0]);
            due("on which DAY", x.suit(s, 4), suits[s][1]);
            due("WEIGHT", x.weight(s, NONE), suits[s][2]);
            due("halves", x.weight(s, 0), suits[s][3]);
            due("fourths", x.weight(s, 1), suits[s][4]);
        }
        int[][] witnesses = {{0, 1, 1}, {2, 1, 0}, {1, 1, 0}, {NONE, 0, 0}};
        for (int w = 0; w < 4; w++) {
            for (int i = 0; i < 3; i++) {
                due("witness " + w + ", " + (4 + i), x.witness(w, 4 + i), witnesses[w][i]);
            }
            due("may", x.witness(w, 7), 0);
        }
        due("evening 0", x.evening(0, 0), 15);
        due("evening 1", x.evening(0, 1), 10);
        due("evening 2", x.evening(0, 2), NONE);
        due("THE SEED", x.seed(31), 31);
    }

    // "keep what was SAID, WEIGHTS, THE DAY, STRIKES, SUITS' ends, evenings that are over, THE SEED"
    private static void imagesKeep() {
        for (int i = 0; i < 2; i++) {
            HalvedProof x = busy();
            due("keep", x.keep(i), 1);
            isBusy(x);
            x.dusk(30);
            x.strike(0, false);
            x.strike(3, true);
            x.seed(8);
            due("goBack", x.goBack(i), 1);
            isBusy(x);
            x.begin();
            x.say(3);
            x.drift(9, 80);
            due("goBack", x.goBack(i), 1);
            isBusy(x);
        }
    }

    // "(not BOOKS)" and nothing else that is not told: LAWS, THE TEXT, its FAULT
    private static void imagesKeepNot() {
        HalvedProof x = busy();
        x.write(0, 15);
        x.write(0, 9);
        Check.court(x, ";");
        x.keep(0);
        x.tear(0);
        x.write(1, 1);
        x.write(0, 14);
        Check.laws(x, "from 0 5 6 3;from 9 1 1 1;");
        Check.laws(x, " x");
        x.feed(3, 0x202020);
        x.goBack(0);
        due("clauses of LAWS", x.told(2), 2);
        due("C of LAWS", x.told(6), 5);
        due("bytes", x.told(4), 3);
        due("FAULT", x.fault(), 1);
        due("WRONG of the new BOOK", x.judge(0), 0);
        due("the new BOOK", x.tear(0), 1);
        due("the other BOOK", x.tear(1), 1);
    }

    // "IMAGE i becomes what is so"; "What is so becomes IMAGE i": what is done then does not change it
    private static void imagesStandAlone() {
        HalvedProof x = busy();
        x.keep(0);
        x.dusk(1);
        x.keep(1);
        x.goBack(0);
        isBusy(x);
        x.dusk(3);
        x.strike(2, true);
        x.goBack(1);
        due("DAY of the other", x.told(3), 3);
        due("its STRIKE", x.witness(2, 6), 0);
        due("its evening", x.evening(0, 2), 5);
        x.goBack(0);
        isBusy(x);
        x.begin();
        due("kept anew", x.keep(0), 1);
        x.goBack(1);
        due("DAY of the other", x.told(3), 3);
        x.goBack(0);
        due("DAY of the new one", x.told(3), 0);
        due("nothing SAID in it", x.witness(0, 5), 0);
        due("kept again", x.keep(0), 1);
        due("back to what is so", x.goBack(0), 1);
    }

    // "begin: .. IMAGES .. stay"; "court: .. IMAGES are gone"; "laws" leaves them
    private static void imagesAreGone() {
        HalvedProof x = busy();
        x.keep(0);
        x.keep(1);
        x.begin();
        x.laws();
        Check.court(x, "x");
        due("they stay", x.goBack(0), 1);
        due("they stay", x.goBack(1), 1);
        due("DAY", x.told(3), 2);
        Check.court(x, "suit 9 9;");
        due("gone", x.goBack(0), NOT);
        due("gone", x.goBack(1), NOT);
        due("kept anew", x.keep(1), 1);
        due("gone", x.goBack(0), NOT);
        due("back", x.goBack(1), 1);
        x.court();
        due("gone with an empty COURT, too", x.goBack(1), NOT);
    }
}
