import java.math.BigInteger;

/** The edges of days, of speaking, of weights: above each test stands the sentence of the document that it holds. */
public final class DayEdgesTest {
    private static final int NONE = HalvedProof.NONE, NOT = HalvedProof.NOT, OUTSIDE = HalvedProof.OUTSIDE;
    private static final int GOES_ON = 0, WON = 1, FELL = 2;
    private static final Check CHECK = new Check();

    public static void main(String[] args) {
        newObject();
        freshWeights();
        freshByLawOfDay();
        halfAsMuch();
        exactly();
        moonAheadOfAll();
        leastMoon();
        greatestMoon();
        moonOfDayOfSpeaking();
        shownOnce();
        struck();
        suitGoesOn();
        fewerThanT();
        fewerThanTOfNewLaws();
        wonAsSoonAs();
        wonWithFractions();
        wonWithGreatestNeed();
        noOtherSuitIsLookedAt();
        wonByWhatItHangsOn();
        wonAtEndOfDay();
        inOrderOfSuits();
        fallsOnL();
        fallsOnLastDays();
        wonAheadOfFalls();
        goesOnNoMore();
        dayAtMost();
        duskBounds();
        whoSpokeOnTheDay();
        spokeLastAndHowOften();
        figureBounds();
        begin();
        strikeAnswers();
        CHECK.end();
    }

    private static void due(String call, int got, int want) {
        CHECK.due(call, got, want);
    }

    private static void suitIs(HalvedProof x, int s, int how, int day) {
        due("how SUIT " + s + " is", x.suit(s, 3), how);
        due("on which DAY", x.suit(s, 4), day);
    }

    // "HalvedProof(): No SUITS, LAWS as ahead of all; DAY 0."
    private static void newObject() {
        HalvedProof x = new HalvedProof();
        int[] told = {0, 0, 0, 0, 0, 0, 1, 28, 2};
        for (int i = 0; i < told.length; i++) {
            due("told " + i, x.told(i), told[i]);
        }
        due("no FAULT", x.fault(), NONE);
        due("MANY of none", x.many(0), 0);
        due("the empty SET", x.many(1), 0);
        due("drift of nobody", x.drift(1, 100), 0);
        due("DAY 1", x.told(3), 1);
        due("DAY it was", x.begin(), 1);
        due("THE SEED: no DRAW for nobody", x.seed(0), 0);
        due("IMAGE 0 is not kept", x.goBack(0), NOT);
        due("IMAGE 1 is not kept", x.goBack(1), NOT);
        due("an IMAGE without a COURT", x.keep(1), 1);
        due("DAY 399", x.dusk(400), 399);
        due("back", x.goBack(1), 1);
        due("to DAY 0", x.told(3), 0);
    }

    // "FRESH weight of a WITNESS: its weight times 3 if sworn or shown, times C if copied .., times 6 if against"
    private static void freshWeights() {
        String[] kinds = {"sworn", "copied", "shown", "against"};
        int[] times = {3, 4, 3, 6};
        for (int kind = 0; kind < 4; kind++) {
            for (int weight : new int[] {1, 2, 99}) {
                HalvedProof x = Check.made("suit 999 9;witness 0 " + weight + " " + kinds[kind] + ";", "from 0 4 1 1;");
                due("FRESH " + kinds[kind], x.witness(0, 3), weight * times[kind]);
                due(kinds[kind] + " speaks", x.say(0), GOES_ON);
                due("WEIGHT of " + kinds[kind], x.weight(0, NONE), weight * times[kind]);
            }
        }
    }

    // "times C if copied (by the LAW of the day)"; "3 FRESH weight on THE DAY"
    private static void freshByLawOfDay() {
        HalvedProof x = Check.made("suit 999 99;witness 0 10 copied;", "from 2 0 1 1;from 3 6 1 1;");
        int[] fresh = {10, 10, 0, 60, 60};
        for (int day = 0; day < fresh.length; day++) {
            due("FRESH on DAY " + day, x.witness(0, 3), fresh[day]);
            x.begin();
            if (day > 0) {
                x.dusk(day);
            }
            x.say(0);
            due("WEIGHT on DAY " + day, x.weight(0, NONE), fresh[day]);
            x.dusk(1);
            due("half of it on the next one, whatever the LAW", x.weight(0, NONE), fresh[day] / 2);
        }
    }

    // "What is SAID on a DAY weighs so much on that day, half as much on the next one, and so on"
    private static void halfAsMuch() {
        HalvedProof x = Check.made("suit 999 99;suit 999 99;witness 0 99 against;", "");
        x.say(0);
        for (int day = 0; day < 12; day++) {
            due("DAY " + day, x.weight(0, NONE), 594 >> day);
            due("halves on DAY " + day, x.weight(0, 0), day == 0 ? 0 : 594 >> (day - 1) & 1);
            due("the other SUIT", x.weight(1, NONE), 0);
            x.dusk(1);
        }
    }

    // "a SUIT's WEIGHT on a DAY is the sum, exactly"; "else figure i behind the point (0 the halves .. i 0 .. 399)"
    private static void exactly() {
        HalvedProof x = Check.made("suit 999 399;witness 0 1 sworn;witness 0 99 against;witness 0 77 copied;witness 0 5 sworn;",
                "from 0 5 1 4;");
        int[][] said = {{0, 0}, {1, 1}, {31, 0}, {32, 3}, {63, 2}, {64, 1}, {65, 0}, {130, 3}, {200, 0}, {260, 2}, {340, 1}, {398, 3}, {399, 0}};
        int[] fresh = {3, 594, 385, 15};
        BigInteger sum = BigInteger.ZERO;
        for (int[] one : said) {
            if (one[0] > x.told(3)) {
                x.dusk(one[0] - x.told(3));
            }
            due("goes on", x.say(one[1]), GOES_ON);
            sum = sum.add(BigInteger.valueOf(fresh[one[1]]).shiftLeft(one[0]));
        }
        due("DAY", x.told(3), 399);
        due("whole THIRDS", x.weight(0, NONE), sum.shiftRight(399).intValueExact());
        for (int i = 0; i < 400; i++) {
            boolean is = i < 399 && sum.testBit(398 - i);
            due("figure " + i, x.weight(0, i), is ? 1 : 0);
        }
    }

    private static void sayAgain(HalvedProof x, int dusks, int want) {
        x.dusk(dusks);
        due("may on DAY " + x.told(3), x.witness(0, 7), want == NOT ? 0 : 1);
        due("says on DAY " + x.told(3), x.say(0), want);
    }

    // "Ahead of all: .. M 28"; "SAID on DAY d, it may again on DAY d and M"
    private static void moonAheadOfAll() {
        HalvedProof x = Check.made("suit 999 99;witness 0 1 sworn;", "");
        x.say(0);
        due("not twice on a DAY", x.say(0), NOT);
        sayAgain(x, 27, NOT);
        sayAgain(x, 1, GOES_ON);
        sayAgain(x, 27, NOT);
        sayAgain(x, 1, GOES_ON);
        due("how often", x.witness(0, 5), 3);
    }

    // "a moon has M days, 1 .. 60"
    private static void leastMoon() {
        HalvedProof x = Check.made("suit 999 99;witness 0 1 sworn;", "from 0 1 1 6;");
        x.say(0);
        due("not twice on a DAY", x.witness(0, 7), 0);
        due("not twice on a DAY", x.say(0), NOT);
        sayAgain(x, 1, GOES_ON);
        sayAgain(x, 1, GOES_ON);
        due("how often", x.witness(0, 5), 3);
    }

    // "a moon has M days, 1 .. 60"
    private static void greatestMoon() {
        HalvedProof x = Check.made("suit 999 99;witness 0 1 against;", "from 0 1 60 6;");
        x.dusk(3);
        x.say(0);
        sayAgain(x, 1, NOT);
        sayAgain(x, 58, NOT);
        sayAgain(x, 1, GOES_ON);
        due("it spoke last", x.witness(0, 4), 63);
    }

    // "if it has not SAID anything in the M days ahead", M by the LAW of the DAY on which it would speak
    private static void moonOfDayOfSpeaking() {
        HalvedProof x = Check.made("suit 999 99;witness 0 1 copied;", "from 0 1 9 1;from 4 1 5 1;from 6 1 7 1;from 20 1 2 1;");
        x.say(0);
        sayAgain(x, 4, NOT);
        sayAgain(x, 1, GOES_ON);
        sayAgain(x, 6, NOT);
        sayAgain(x, 1, GOES_ON);
        sayAgain(x, 6, NOT);
        sayAgain(x, 1, GOES_ON);
        sayAgain(x, 1, NOT);
        sayAgain(x, 1, GOES_ON);
        sayAgain(x, 1, NOT);
        Check.laws(x, "from 0 1 1 1;");
        due("by other LAWS", x.witness(0, 7), 1);
    }

    // "one that shows speaks once for ever"
    private static void shownOnce() {
        HalvedProof x = Check.made("suit 999 399;witness 0 1 shown;", "from 0 1 1 6;");
        x.keep(0);
        x.say(0);
        sayAgain(x, 1, NOT);
        sayAgain(x, 60, NOT);
        sayAgain(x, 338, NOT);
        due("once", x.witness(0, 5), 1);
        x.begin();
        due("nothing is SAID then", x.say(0), GOES_ON);
        x.goBack(0);
        due("nothing was SAID then", x.say(0), GOES_ON);
    }

    // "is not STRUCK"
    private static void struck() {
        HalvedProof x = Check.made("suit 999 99;witness 0 1 sworn;witness 0 2 sworn;", "");
        x.strike(0, true);
        due("may not", x.witness(0, 7), 0);
        due("does not", x.say(0), NOT);
        due("the other may", x.witness(1, 7), 1);
        due("STRUCK again", x.strike(0, true), 1);
        due("not any more", x.strike(0, false), 1);
        due("may", x.witness(0, 7), 1);
        due("does", x.say(0), GOES_ON);
        due("STRUCK when it has spoken", x.strike(0, true), 0);
        due("what was SAID stays", x.weight(0, NONE), 3);
        due("T counts it", x.told(5), 1);
    }

    // "its SUIT goes on"
    private static void suitGoesOn() {
        HalvedProof x = Check.made("suit 1 9;suit 9 1;suit 9 9;witness 0 1 sworn;witness 0 1 sworn;witness 1 1 sworn;witness 2 1 sworn;", "from 0 1 1 6;");
        x.say(0);
        due("WON: may not", x.witness(1, 7), 0);
        due("WON: does not", x.say(1), NOT);
        x.dusk(1);
        due("on DAY L it may", x.witness(2, 7), 1);
        x.dusk(1);
        due("FELL: may not", x.witness(2, 7), 0);
        due("FELL: does not", x.say(2), NOT);
        due("goes on: may", x.witness(3, 7), 1);
    }

    // "and fewer than T have spoken on that DAY"; "T, 1 .. 6"; "Ahead of all: .. T 2"
    private static void fewerThanT() {
        String court = "suit 999 99;suit 999 99;" + "witness 0 1 sworn;".repeat(4) + "witness 1 1 sworn;".repeat(4);
        for (int t = 1; t <= 6; t++) {
            HalvedProof x = Check.made(court, t == 2 ? "" : "from 0 1 60 " + t + ";");
            for (int w = 0; w < 8; w++) {
                due("may, T is " + t, x.witness(w, 7), w < t ? 1 : 0);
                due("says, T is " + t, x.say(w), w < t ? GOES_ON : NOT);
                due("spoke", x.told(5), Math.min(t, w + 1));
            }
            x.dusk(1);
            due("on the next DAY", x.told(5), 0);
            due("on the next DAY", x.say(7), GOES_ON);
        }
    }

    // "fewer than T have spoken": LAWS told on the DAY count for it
    private static void fewerThanTOfNewLaws() {
        HalvedProof x = Check.made("suit 999 99;" + "witness 0 1 sworn;".repeat(5), "from 0 1 9 3;");
        x.say(0);
        x.say(1);
        Check.laws(x, "from 0 1 9 1;");
        due("more than T spoke", x.say(2), NOT);
        due("MOST by nobody else", x.most(0, 0), 6);
        due("MANY by nobody else", x.many(0), 0);
        Check.laws(x, "from 0 1 9 2;");
        due("T spoke", x.say(2), NOT);
        Check.laws(x, "from 0 1 9 3;");
        due("one more", x.say(2), GOES_ON);
        due("T spoke", x.say(3), NOT);
        due("three", x.told(5), 3);
    }

    // "A SUIT IS WON as soon as its WEIGHT is 3 times NEED or more (when one of its WITNESSES speaks ..)"
    private static void wonAsSoonAs() {
        HalvedProof x = Check.made("suit 1 9;suit 2 9;suit 2 9;witness 0 1 sworn;witness 1 5 copied;witness 1 1 copied;witness 2 7 copied;",
                "from 0 1 9 6;");
        due("3 of 3", x.say(0), WON);
        suitIs(x, 0, WON, 0);
        due("5 of 6", x.say(1), GOES_ON);
        suitIs(x, 1, GOES_ON, NONE);
        due("6 of 6", x.say(2), WON);
        suitIs(x, 1, WON, 0);
        due("7 of 6", x.say(3), WON);
        x = Check.made("suit 2 9;witness 0 5 copied;witness 0 4 copied;", "from 0 1 9 6;");
        x.dusk(3);
        x.say(0);
        x.dusk(1);
        due("2.5 and 4", x.say(1), WON);
        suitIs(x, 0, WON, 4);
    }

    // "its WEIGHT is 3 times NEED or more": what is behind the point does not make it up
    private static void wonWithFractions() {
        String court = "suit 5 9;witness 0 5 copied;witness 0 6 copied;witness 0 12 copied;witness 0 1 copied;";
        HalvedProof x = Check.made(court, "from 0 1 9 6;");
        x.say(0);
        x.dusk(1);
        due("14.5 of 15", x.say(2), GOES_ON);
        due("15.5 of 15", x.say(3), WON);
        x = Check.made(court, "from 0 1 9 6;");
        x.say(1);
        x.dusk(1);
        due("15 of 15", x.say(2), WON);
        x = Check.made("suit 1 9;witness 0 2 sworn;witness 0 5 copied;", "from 0 0 9 6;from 1 1 9 6;");
        x.say(1);
        x.dusk(1);
        due("5 and 0", x.say(0), WON);
    }

    // "NEED 1 .. 999"
    private static void wonWithGreatestNeed() {
        String five = "suit 999 9;" + "witness 0 99 against;".repeat(5);
        for (int last = 8; last <= 9; last++) {
            HalvedProof x = Check.made(five + "witness 0 " + last + " sworn;", "from 0 1 9 6;");
            for (int w = 0; w < 5; w++) {
                due("too little", x.say(w), GOES_ON);
            }
            due("2970 and " + 3 * last, x.say(5), last == 9 ? WON : GOES_ON);
            due("2970 and " + 3 * last, x.weight(0, NONE), 2970 + 3 * last);
        }
    }

    // "(when one of its WITNESSES speaks; no other SUIT is looked at then)"
    private static void noOtherSuitIsLookedAt() {
        HalvedProof x = Check.made("suit 1 9;suit 1 9 on 0;suit 1 9 on 1;witness 0 1 sworn;witness 1 1 sworn;witness 1 1 sworn;witness 2 1 sworn;",
                "from 0 1 9 6;");
        due("has enough, HANGS", x.say(1), GOES_ON);
        due("has enough, HANGS", x.say(3), GOES_ON);
        due("IS WON", x.say(0), WON);
        suitIs(x, 1, GOES_ON, NONE);
        due("the other may speak on", x.witness(2, 7), 1);
        due("IS WON when one of its own speaks", x.say(2), WON);
        suitIs(x, 1, WON, 0);
        suitIs(x, 2, GOES_ON, NONE);
    }

    // "if what it HANGS on IS WON"
    private static void wonByWhatItHangsOn() {
        HalvedProof x = Check.made("suit 1 9;suit 9 1;suit 1 9 on 0;suit 1 9 on 1;witness 0 1 sworn;witness 2 1 sworn;witness 3 1 sworn;"
                + "witness 3 1 sworn;", "from 0 1 1 6;");
        due("it goes on: not yet", x.say(2), GOES_ON);
        x.say(0);
        due("it IS WON: at once", x.say(1), WON);
        x.dusk(2);
        suitIs(x, 1, FELL, 1);
        due("it FELL: never", x.say(3), GOES_ON);
        x.dusk(7);
        suitIs(x, 3, GOES_ON, NONE);
        x.say(2);
        x.say(3);
        x.dusk(1);
        suitIs(x, 3, FELL, 9);
    }

    // "else if its WEIGHT is so at the end of a DAY .. and what it HANGS on IS WON by then"
    private static void wonAtEndOfDay() {
        HalvedProof x = Check.made("suit 1 9;suit 1 9 on 0;suit 1 9 on 0;suit 2 9 on 0;witness 0 1 sworn;witness 1 1 sworn;witness 2 2 sworn;"
                + "witness 3 2 sworn;", "from 0 1 9 6;");
        x.say(1);
        x.say(2);
        x.say(3);
        x.dusk(1);
        suitIs(x, 1, GOES_ON, NONE);
        x.say(0);
        suitIs(x, 2, GOES_ON, NONE);
        x.dusk(1);
        due("1.5 of 3 ahead of DUSK", x.evening(1, 1), 1);
        suitIs(x, 1, GOES_ON, NONE);
        suitIs(x, 2, WON, 1);
        suitIs(x, 3, GOES_ON, NONE);
        due("3 of 3 ahead of DUSK", x.evening(2, 1), 3);
        due("3 of 6 ahead of DUSK", x.evening(3, 1), 3);
        x.dusk(3);
        suitIs(x, 2, WON, 1);
    }

    // "(looked at in order of SUITS, from the first one)"
    private static void inOrderOfSuits() {
        String hanging = "suit 1 9;suit 1 9 on 0;suit 1 9 on 1;suit 1 9 on 2;suit 1 9 on 3;suit 1 9 on 4;";
        HalvedProof x = Check.made(hanging + "witness 5 1 sworn;witness 4 1 sworn;witness 3 1 sworn;witness 2 1 sworn;witness 1 1 sworn;"
                + "witness 0 1 sworn;", "from 0 1 9 6;");
        for (int w = 0; w < 6; w++) {
            due("the last to speak wins", x.say(w), w < 5 ? GOES_ON : WON);
        }
        for (int s = 1; s < 6; s++) {
            suitIs(x, s, GOES_ON, NONE);
        }
        x.dusk(1);
        for (int s = 0; s < 6; s++) {
            suitIs(x, s, WON, 0);
        }
    }

    // "it FALLS L days, 1 .. 399, behind DAY 0"; "At DUSK (the end of DAY L) one that is not WON by then FALLS."
    private static void fallsOnL() {
        HalvedProof x = Check.made("suit 9 1;suit 9 2;suit 9 3;witness 0 1 sworn;witness 1 1 sworn;", "from 0 1 1 6;");
        x.dusk(1);
        suitIs(x, 0, GOES_ON, NONE);
        due("it may speak on DAY L", x.say(0), GOES_ON);
        x.dusk(1);
        suitIs(x, 0, FELL, 1);
        suitIs(x, 1, GOES_ON, NONE);
        x.dusk(1);
        suitIs(x, 0, FELL, 1);
        suitIs(x, 1, FELL, 2);
        suitIs(x, 2, GOES_ON, NONE);
        x.begin();
        x.dusk(400);
        suitIs(x, 0, FELL, 1);
        suitIs(x, 1, FELL, 2);
        suitIs(x, 2, FELL, 3);
    }

    // "THE DAY (0 at first, 399 at most)": the end of DAY 399 never comes
    private static void fallsOnLastDays() {
        HalvedProof x = Check.made("suit 1 398;suit 1 399;suit 1 399;witness 1 1 sworn;", "");
        x.dusk(398);
        suitIs(x, 0, GOES_ON, NONE);
        x.dusk(1);
        suitIs(x, 0, FELL, 398);
        suitIs(x, 1, GOES_ON, NONE);
        x.dusk(1);
        suitIs(x, 1, GOES_ON, NONE);
        due("IS WON on DAY 399", x.say(0), WON);
        suitIs(x, 1, WON, 399);
        x.dusk(400);
        suitIs(x, 2, GOES_ON, NONE);
    }

    // "DUSK: first SUITS are looked at (WON, then FALLS), in order"
    private static void wonAheadOfFalls() {
        HalvedProof x = Check.made("suit 1 1;suit 1 1 on 0;suit 1 1 on 1;suit 1 1 on 1;witness 0 1 sworn;witness 1 1 sworn;witness 2 1 sworn;",
                "from 0 1 9 6;");
        x.dusk(1);
        x.say(1);
        x.say(2);
        x.say(0);
        x.dusk(1);
        suitIs(x, 0, WON, 1);
        suitIs(x, 1, WON, 1);
        suitIs(x, 2, WON, 1);
        suitIs(x, 3, FELL, 1);
        x = Check.made("suit 1 1;suit 1 2 on 0;suit 1 1 on 1;witness 1 2 sworn;witness 2 4 sworn;", "from 0 1 9 6;");
        x.say(0);
        x.say(1);
        x.dusk(2);
        suitIs(x, 0, FELL, 1);
        suitIs(x, 1, GOES_ON, NONE);
        suitIs(x, 2, FELL, 1);
        x.dusk(1);
        suitIs(x, 1, FELL, 2);
    }

    // "One that IS WON, that FELL, goes on no more (its WEIGHT is halved on)."
    private static void goesOnNoMore() {
        HalvedProof x = Check.made("suit 1 9;suit 9 1;witness 0 3 sworn;witness 0 1 sworn;witness 1 5 sworn;witness 1 9 against;", "from 0 1 1 6;");
        x.say(0);
        x.say(2);
        x.dusk(2);
        suitIs(x, 0, WON, 0);
        suitIs(x, 1, FELL, 1);
        due("9 / 4", x.weight(0, NONE), 2);
        due("9 / 4", x.weight(0, 1), 1);
        due("15 / 4", x.weight(1, NONE), 3);
        due("15 / 4", x.weight(1, 0), 1);
        x.dusk(10);
        suitIs(x, 0, WON, 0);
        suitIs(x, 1, FELL, 1);
        due("9 / 4096", x.weight(0, 11), 1);
        due("9 / 4096", x.weight(0, 8), 1);
        due("15 / 4096", x.weight(1, 9), 1);
        due("evening of one that FELL", x.evening(1, 3), 1);
    }

    // "then all weighs half; THE DAY (0 at first, 399 at most) is one more"; "dusk: .. to DAY 399 at the most: THE DAY"
    private static void dayAtMost() {
        HalvedProof x = Check.made("suit 999 399;witness 0 4 sworn;", "from 0 1 1 1;");
        due("DAY 0", x.told(3), 0);
        due("one more", x.dusk(1), 1);
        due("DAY 398", x.dusk(397), 398);
        x.say(0);
        due("399", x.dusk(1), 399);
        due("halved", x.weight(0, NONE), 6);
        x.say(0);
        due("no more", x.dusk(1), 399);
        due("no more", x.dusk(400), 399);
        due("not halved", x.weight(0, NONE), 18);
        due("spoke on THE DAY", x.told(5), 1);
        due("its evening is not over", x.evening(0, 399), NONE);
        x.begin();
        due("400 from DAY 0", x.dusk(400), 399);
        x.begin();
        x.dusk(398);
        due("two from DAY 398", x.dusk(2), 399);
        due("evening of 398", x.evening(0, 398), 0);
    }

    // "n times (1 .. 400)"; "OUTSIDE"
    private static void duskBounds() {
        HalvedProof x = new HalvedProof();
        for (int n : new int[] {0, 401, -1, 1000, Integer.MIN_VALUE, Integer.MAX_VALUE}) {
            due("dusk " + n, x.dusk(n), OUTSIDE);
        }
        due("DAY 0", x.told(3), 0);
        due("dusk 1", x.dusk(1), 1);
        x.begin();
        due("dusk 399", x.dusk(399), 399);
        due("on DAY 399, too", x.dusk(401), OUTSIDE);
        due("on DAY 399, too", x.dusk(0), OUTSIDE);
        due("dusk 400", x.dusk(400), 399);
    }

    // "5 who spoke on THE DAY"
    private static void whoSpokeOnTheDay() {
        HalvedProof x = Check.made("suit 1 9;suit 9 9;witness 0 1 sworn;witness 1 1 sworn;witness 1 1 shown;", "from 0 1 1 6;");
        due("nobody", x.told(5), 0);
        x.say(1);
        x.say(0);
        x.say(0);
        due("two, of all SUITS", x.told(5), 2);
        x.keep(0);
        x.dusk(1);
        due("nobody yet", x.told(5), 0);
        x.say(1);
        due("one", x.told(5), 1);
        x.goBack(0);
        due("two again", x.told(5), 2);
        x.say(2);
        due("three", x.told(5), 3);
        x.begin();
        due("nobody again", x.told(5), 0);
    }

    // "4 on which DAY it spoke last (NONE), 5 how often"
    private static void spokeLastAndHowOften() {
        HalvedProof x = Check.made("suit 999 399;witness 0 1 sworn;witness 0 1 sworn;", "from 0 1 1 6;");
        due("NONE", x.witness(0, 4), NONE);
        due("never", x.witness(0, 5), 0);
        x.say(0);
        due("DAY 0", x.witness(0, 4), 0);
        due("once", x.witness(0, 5), 1);
        due("the other: NONE", x.witness(1, 4), NONE);
        due("the other: never", x.witness(1, 5), 0);
        x.dusk(399);
        due("still DAY 0", x.witness(0, 4), 0);
        x.say(0);
        due("DAY 399", x.witness(0, 4), 399);
        due("twice", x.witness(0, 5), 2);
    }

    // "weight: .. i = NONE .. i 0 .. 399 .. OUTSIDE"
    private static void figureBounds() {
        HalvedProof x = Check.made("suit 999 399;witness 0 1 sworn;", "from 0 1 1 1;");
        x.say(0);
        x.dusk(399);
        due("NONE", x.weight(0, NONE), 0);
        due("the first", x.weight(0, 0), 0);
        due("3 of DAY 0", x.weight(0, 397), 1);
        due("3 of DAY 0", x.weight(0, 398), 1);
        due("the last", x.weight(0, 399), 0);
        for (int i : new int[] {-2, -3, 400, 401, Integer.MIN_VALUE, Integer.MAX_VALUE}) {
            due("figure " + i, x.weight(0, i), OUTSIDE);
        }
    }

    // "begin: DAY 0 again, nothing SAID, all goes on, nobody STRUCK (LAWS, BOOKS, IMAGES, THE SEED stay): THE DAY it was."
    private static void begin() {
        HalvedProof x = Twins.made("suit 5 ");
        due("THE DAY it was", x.begin(), 4);
        due("DAY 0", x.told(3), 0);
        due("nobody spoke", x.told(5), 0);
        for (int s = 0; s < 4; s++) {
            suitIs(x, s, GOES_ON, NONE);
            for (int i = NONE; i < 5; i++) {
                due("no WEIGHT", x.weight(s, i), 0);
            }
            due("no evening is over", x.evening(s, 0), NONE);
        }
        for (int w = 0; w < 7; w++) {
            due("SAID nothing", x.witness(w, 4), NONE);
            due("SAID nothing", x.witness(w, 5), 0);
            due("not STRUCK", x.witness(w, 6), 0);
            due("may", x.witness(w, 7), 1);
        }
        due("LAWS stay", x.told(2), 2);
        due("THE TEXT stays", x.told(4), 7);
        due("its FAULT stays", x.fault(), 1);
        due("the BOOK stays", x.write(0, 1), 4);
        due("WRONG: no evening is over", x.judge(0), NONE);
        due("THE SEED stays", x.seed(3), 77);
        due("begin on DAY 0", x.begin(), 0);
        due("IMAGE 1 was not kept", x.goBack(1), NOT);
        due("IMAGE 0 stays", x.goBack(0), 1);
        due("with its DAY", x.told(3), 1);
        due("with its SEED", x.seed(0), 77);
        x.dusk(400);
        due("from the last DAY", x.begin(), 399);
    }

    // "strike: A WITNESS is STRUCK, or not any more: what it was (1, 0)."
    private static void strikeAnswers() {
        HalvedProof x = Check.made("suit 9 1;" + "witness 0 1 sworn;".repeat(6) + "suit 9 9;" + "witness 1 1 sworn;".repeat(6), "");
        for (int w = 0; w < 12; w++) {
            due("not STRUCK", x.strike(w, false), 0);
            due("not STRUCK", x.strike(w, true), 0);
            due("STRUCK", x.witness(w, 6), 1);
            due("STRUCK", x.strike(w, true), 1);
            due("STRUCK", x.strike(w, false), 1);
            due("not STRUCK", x.witness(w, 6), 0);
        }
        x.strike(11, true);
        x.dusk(3);
        due("of a SUIT that FELL", x.strike(0, true), 0);
        due("of a SUIT that FELL", x.witness(0, 6), 1);
        due("a STRIKE stays", x.witness(11, 6), 1);
    }
}
