/** The edges of what is CALLED, IN TURN, MANY: above each test stands the sentence of the document that it holds. */
public final class CalledEdgesTest {
    private static final int NONE = HalvedProof.NONE, UNKNOWN = HalvedProof.UNKNOWN, OUTSIDE = HalvedProof.OUTSIDE;
    private static final int NOT = HalvedProof.NOT;
    /** Of SUIT 0, to make a SUIT that HANGS on it go on whatever it weighs. */
    private static final String NEVER = "suit 999 399;";
    private static final Check CHECK = new Check();

    public static void main(String[] args) {
        daysFromNow();
        lastDayOfAll();
        mostInWholeThirds();
        mostOfNobody();
        eachAtMostOnce();
        mostByMoons();
        mostByStrikes();
        mostByLawsOfEachDay();
        whoHasSpokenTodayCounts();
        mostLooksNotAtEnds();
        mostOfGreatest();
        soonestBounds();
        soonestIsLeast();
        soonestIsExact();
        soonestNone();
        planOfFewest();
        planOfLeastSet();
        planLaterDayAhead();
        planByLaws();
        planNone();
        cutOfFewest();
        cutOfLeast();
        cutOfAll();
        cutIsEmpty();
        cutNone();
        cutWithinBounds();
        turnsOfOneToSix();
        turnsMustStrike();
        turnsBestCall();
        turnsNow();
        turnsLookNotAtLaterDays();
        turnsByMoonsAndStrikes();
        turnsExactly();
        turnsBounds();
        manyOfSix();
        manyTillEnough();
        manyByRisingNumbers();
        manyLeastSet();
        manyThatNeedNobody();
        manyThatGoOn();
        CHECK.end();
    }

    private static void due(String call, int got, int want) {
        CHECK.due(call, got, want);
    }

    private static void mostIs(HalvedProof x, int s, int... want) {
        for (int k = 0; k < want.length; k++) {
            due("MOST on day " + k, x.most(s, k), want[k]);
        }
    }

    private static void planIs(HalvedProof x, int... want) {
        for (int w = 0; w < want.length; w++) {
            due("PLAN of " + w, x.plan(w), want[w]);
        }
    }

    // "day k (0 .. 30 from now ..)"; "most: .. OUTSIDE"
    private static void daysFromNow() {
        HalvedProof x = Check.made("suit 999 9;witness 0 1 sworn;", "");
        due("the first", x.most(0, 0), 3);
        due("the last", x.most(0, 30), 3);
        for (int k : new int[] {-1, 31, 32, 399, Integer.MIN_VALUE, Integer.MAX_VALUE}) {
            due("day " + k, x.most(0, k), OUTSIDE);
        }
    }

    // "DAY 399 at the most"; "most: .. NOT: .. beyond DAY 399"
    private static void lastDayOfAll() {
        HalvedProof x = Check.made("suit 999 399;witness 0 1 sworn;", "");
        x.dusk(368);
        due("DAY 398", x.most(0, 30), 3);
        x.dusk(1);
        due("DAY 399", x.most(0, 30), 3);
        x.dusk(1);
        due("DAY 399", x.most(0, 29), 3);
        due("DAY 400", x.most(0, 30), NOT);
        due("OUTSIDE is ahead of NOT", x.most(0, 31), OUTSIDE);
        x.dusk(28);
        due("DAY 399", x.most(0, 1), 3);
        due("DAY 400", x.most(0, 2), NOT);
        x.dusk(1);
        due("DAY 399", x.most(0, 0), 3);
        due("DAY 400", x.most(0, 1), NOT);
        due("DAY 429", x.most(0, 30), NOT);
        due("OUTSIDE is ahead of NOT", x.most(0, 31), OUTSIDE);
        due("OUTSIDE is ahead of NOT", x.most(0, -1), OUTSIDE);
    }

    // "most: THE MOST on day k from now, in whole THIRDS"
    private static void mostInWholeThirds() {
        HalvedProof x = Check.made("suit 999 99;witness 0 7 copied;witness 0 7 copied;witness 0 7 copied;", "from 0 1 60 1;");
        mostIs(x, 0, 7, 10, 12, 12, 12);
        x.say(0);
        // 7 of today, half of it and 7, ..
        mostIs(x, 0, 7, 10, 12, 11);
        x.dusk(1);
        // 3.5 and 7; 1.75, 3.5, 7; 0.875, 3.5, 7
        mostIs(x, 0, 10, 12, 11, 10, 10);
    }

    // "of its WITNESSES who MAY SPEAK by then": there may be none
    private static void mostOfNobody() {
        HalvedProof x = Check.made("suit 999 99;suit 1 9;witness 0 5 sworn;", "from 0 1 60 1;");
        mostIs(x, 1, 0, 0);
        x.say(0);
        mostIs(x, 0, 15, 7, 3, 1, 0);
        x.dusk(1);
        mostIs(x, 0, 7, 3, 1, 0);
        due("SOONEST of nobody", x.soonest(1), NONE);
        due("TO STRIKE of nobody", x.cut(1), 0);
        due("IN TURN of nobody", x.turns(1, 0), 0);
        due("BEST CALL of nobody", x.turns(1, 1), NONE);
    }

    // "each at most once"
    private static void eachAtMostOnce() {
        HalvedProof x = Check.made("suit 999 99;witness 0 8 sworn;", "from 0 1 1 6;");
        mostIs(x, 0, 24, 24, 24, 24);
        x.say(0);
        mostIs(x, 0, 24, 36, 30, 27);
    }

    // "(moons ..)"; "SAID on DAY d, it may again on DAY d and M; one that shows speaks once for ever"
    private static void mostByMoons() {
        HalvedProof x = Check.made("suit 999 99;witness 0 32 sworn;witness 0 32 shown;", "from 0 1 3 6;");
        mostIs(x, 0, 192, 192);
        x.say(0);
        mostIs(x, 0, 192, 144, 120, 204);
        x.say(1);
        mostIs(x, 0, 192, 96, 48, 120, 108);
        x.dusk(1);
        mostIs(x, 0, 96, 48, 120, 108);
        x.dusk(2);
        mostIs(x, 0, 120, 108);
    }

    // "(.. STRIKES ..)"
    private static void mostByStrikes() {
        HalvedProof x = Check.made("suit 999 99;witness 0 4 sworn;witness 0 2 sworn;", "");
        mostIs(x, 0, 18, 18);
        x.strike(0, true);
        mostIs(x, 0, 6, 6);
        x.strike(1, true);
        mostIs(x, 0, 0, 0);
        x.strike(0, false);
        mostIs(x, 0, 12, 12);
    }

    // "(.. LAWS of each day ..)"
    private static void mostByLawsOfEachDay() {
        HalvedProof x = Check.made("suit 999 99;witness 0 16 copied;", "from 0 0 9 1;from 1 6 9 1;from 2 2 9 1;from 3 0 9 1;");
        mostIs(x, 0, 0, 96, 48, 24, 12);
        x = Check.made("suit 999 99;witness 0 4 sworn;witness 0 4 sworn;witness 0 4 sworn;witness 0 4 sworn;", "from 0 1 9 1;from 1 1 9 2;from 2 1 9 3;");
        mostIs(x, 0, 12, 30, 42, 42);
        x = Check.made("suit 999 99;witness 0 8 sworn;", "from 0 1 2 1;from 2 1 4 1;from 3 1 1 1;from 6 1 9 1;");
        x.say(0);
        mostIs(x, 0, 24, 12, 6, 27, 25, 24);
        x.dusk(6);
        // from DAY 6 on a moon has nine days, so it may on DAY 9 at the soonest
        mostIs(x, 0, 0, 0, 0, 24);
    }

    // "nobody else speaks, but who has spoken today counts for T"
    private static void whoHasSpokenTodayCounts() {
        HalvedProof x = Check.made("suit 999 99;suit 999 99;witness 0 4 sworn;witness 0 2 sworn;witness 1 8 sworn;witness 1 8 sworn;", "from 0 1 60 2;");
        mostIs(x, 0, 18, 18);
        x.say(2);
        mostIs(x, 0, 12, 18, 18);
        x.say(3);
        mostIs(x, 0, 0, 18, 18);
        mostIs(x, 1, 48, 24);
        x.dusk(1);
        mostIs(x, 0, 18, 18);
    }

    // "(what it HANGS on, L are not looked at)"
    private static void mostLooksNotAtEnds() {
        HalvedProof x = Check.made(NEVER + "suit 5 1 on 0;witness 1 4 sworn;witness 1 4 sworn;", "from 0 1 9 1;");
        mostIs(x, 1, 12, 18, 18);
        due("SOONEST", x.soonest(1), 1);
        x.dusk(1);
        due("behind L", x.soonest(1), 1);
        mostIs(x, 1, 12, 18);
        planIs(x, 1, 0);
        due("TO STRIKE", x.cut(1), 1);
        x.dusk(1);
        due("FELL", x.most(1, 0), NOT);
        due("FELL", x.soonest(1), NONE);
        due("FELL", x.plan(0), NONE);
        due("FELL", x.cut(1), NOT);
    }

    // "weight 1 .. 99", "6 of one SUIT", "T, 1 .. 6"
    private static void mostOfGreatest() {
        HalvedProof x = Check.made("suit 999 399;" + "witness 0 99 against;".repeat(6), "from 0 6 60 6;");
        mostIs(x, 0, 3564, 3564);
        due("day 30", x.most(0, 30), 3564);
        Check.laws(x, "from 0 6 60 1;");
        mostIs(x, 0, 594, 891, 1039, 1113, 1150, 1169, 1169);
        due("day 30", x.most(0, 30), 1169);
        due("too little", x.soonest(0), NONE);
        Check.laws(x, "from 0 6 60 1;from 30 6 60 6;");
        due("day 29", x.most(0, 29), 1169);
        due("day 30", x.most(0, 30), 3564);
        due("on the last day", x.soonest(0), 30);
        planIs(x, 30, 30, 30, 30, 30, 30);
    }

    // "SOONEST: the least k on which THE MOST is 3 times NEED or more", "k (0 .. 30 from now, DAY 399 at the most)"
    private static void soonestBounds() {
        HalvedProof x = Check.made(NEVER + "suit 3 399 on 0;witness 1 3 sworn;", "from 0 1 60 1;");
        due("today", x.soonest(1), 0);
        x.say(0);
        x.dusk(29);
        due("not in 31 days", x.soonest(1), NONE);
        due("no PLAN", x.plan(0), NONE);
        x.dusk(1);
        due("in 30 days", x.soonest(1), 30);
        due("its PLAN", x.plan(0), 30);
        x.dusk(29);
        due("in one day", x.soonest(1), 1);
        x.dusk(1);
        due("today", x.soonest(1), 0);
        x.begin();
        x.dusk(339);
        x.say(0);
        x.dusk(55);
        due("on DAY 399", x.soonest(1), 5);
        x.begin();
        x.dusk(340);
        x.say(0);
        x.dusk(55);
        due("not on DAY 400", x.soonest(1), NONE);
        x.dusk(4);
        due("not beyond DAY 399", x.soonest(1), NONE);
        due("no PLAN", x.plan(0), NONE);
        due("nobody TO STRIKE", x.cut(1), 0);
    }

    // "the least k on which THE MOST is 3 times NEED or more"
    private static void soonestIsLeast() {
        // on day 0 it has 48, on day 1 only 24 and 24, on day 2 it has more again
        HalvedProof x = Check.made("suit 16 99;witness 0 8 copied;witness 0 8 copied;witness 0 8 copied;", "from 0 6 9 1;from 1 3 9 1;from 2 6 9 2;");
        mostIs(x, 0, 48, 48, 108);
        due("the second", x.soonest(0), 0);
        x = Check.made("suit 17 99;witness 0 8 copied;witness 0 8 copied;witness 0 8 copied;", "from 0 6 9 1;from 1 3 9 1;from 2 6 9 2;");
        due("the third", x.soonest(0), 2);
        x = Check.made("suit 17 99;witness 0 8 copied;witness 0 9 copied;", "from 0 6 9 1;from 1 0 9 1;");
        due("the first alone", x.soonest(0), 0);
    }

    // "3 times NEED or more"
    private static void soonestIsExact() {
        String court = NEVER + "suit 5 99 on 0;witness 1 12 copied;witness 1 5 copied;witness 1 6 copied;";
        HalvedProof x = Check.made(court, "from 0 1 60 1;");
        // 12 and half of 6 are 15; with 5 instead it is 14.5
        due("15 of 15", x.soonest(1), 1);
        planIs(x, 1, NONE, 0);
        x.strike(2, true);
        due("14.5 of 15", x.soonest(1), NONE);
        x.say(1);
        due("14.5 of 15", x.soonest(1), NONE);
        due("14", x.most(1, 1), 14);
        x.strike(2, false);
        x.dusk(1);
        due("2.5 and 12", x.most(1, 0), 14);
        due("1.25, 3, 12", x.soonest(1), 1);
        planIs(x, 1, NONE, 0);
        x = Check.made(NEVER + "suit 5 99 on 0;witness 1 15 copied;", "from 0 1 60 1;");
        x.say(0);
        due("15 without anybody", x.soonest(1), 0);
        x.dusk(1);
        due("7.5", x.soonest(1), NONE);
    }

    // "NONE (also if it goes on no more)"; "soonest: .. NONE. UNKNOWN."
    private static void soonestNone() {
        HalvedProof x = Check.made("suit 1 9;suit 1 1;suit 9 9;witness 0 1 sworn;witness 1 1 sworn;witness 2 1 sworn;witness 0 9 sworn;", "");
        due("too little", x.soonest(2), NONE);
        due("enough", x.soonest(0), 0);
        x.say(0);
        due("WON", x.soonest(0), NONE);
        due("WON: nobody speaks", x.plan(3), NONE);
        due("enough", x.soonest(1), 0);
        x.dusk(2);
        due("FELL", x.soonest(1), NONE);
        due("FELL: nobody speaks", x.plan(1), NONE);
        due("no such", x.soonest(3), UNKNOWN);
        due("no such", x.soonest(-1), UNKNOWN);
        due("no such", x.plan(4), UNKNOWN);
        due("no such", x.plan(-1), UNKNOWN);
    }

    // "THE PLAN for SOONEST: .. the one with the fewest speakers"
    private static void planOfFewest() {
        HalvedProof x = Check.made("suit 6 9;" + "witness 0 3 sworn;witness 0 3 sworn;witness 0 2 sworn;witness 0 2 sworn;witness 0 2 sworn;witness 0 6 sworn;",
                "from 0 1 9 6;");
        planIs(x, NONE, NONE, NONE, NONE, NONE, 0);
        x.strike(5, true);
        planIs(x, 0, 0, NONE, NONE, NONE, NONE);
        x.strike(0, true);
        planIs(x, NONE, 0, 0, 0, NONE, NONE);
        x.strike(1, true);
        planIs(x, NONE, NONE, 0, 0, 0, NONE);
    }

    // "of like ones the one whose SET is least" (as a number: {1, 2} is less than {0, 3})
    private static void planOfLeastSet() {
        HalvedProof x = Check.made("suit 10 9;witness 0 1 sworn;witness 0 5 sworn;witness 0 5 sworn;witness 0 9 sworn;", "from 0 1 9 6;");
        planIs(x, NONE, 0, 0, NONE);
        x.strike(1, true);
        planIs(x, 0, NONE, NONE, 0);
        x.strike(0, true);
        planIs(x, NONE, NONE, 0, 0);
        x = Check.made("suit 9 9;suit 4 9;witness 1 2 sworn;witness 0 9 sworn;witness 1 2 sworn;witness 0 9 sworn;witness 1 2 sworn;", "");
        planIs(x, 0, 0, 0, NONE, NONE);
    }

    // "of like ones the first (WITNESS by WITNESS the later day ahead)"
    private static void planLaterDayAhead() {
        // 12 today and 12 tomorrow: 18
        HalvedProof x = Check.made("suit 6 9;witness 0 4 sworn;witness 0 4 sworn;", "from 0 1 9 1;");
        planIs(x, 1, 0);
        x = Check.made("suit 7 9;witness 0 4 sworn;witness 0 4 sworn;witness 0 4 sworn;", "from 0 1 9 1;");
        planIs(x, 2, 1, 0);
        // 12 and half of 6 are 15, 6 and half of 12 are 12
        x = Check.made("suit 5 9;witness 0 2 sworn;witness 0 4 sworn;", "from 0 1 9 1;");
        planIs(x, 0, 1);
        // the two of 12 make 18; the first would not be missed
        x = Check.made("suit 6 9;witness 0 4 copied;witness 0 12 copied;witness 0 12 copied;", "from 0 1 9 1;");
        planIs(x, NONE, 1, 0);
        planLaterDayOfThree();
    }

    // "(WITNESS by WITNESS the later day ahead)": one may speak today, two tomorrow
    private static void planLaterDayOfThree() {
        String court = "suit %d 99;witness 0 4 sworn;witness 0 16 sworn;witness 0 6 sworn;", laws = "from 0 1 9 1;from 1 1 9 2;";
        // 60 and more of 57 by the first two
        planIs(Check.made(String.format(court, 19), laws), 1, 1, NONE);
        planIs(Check.made(String.format(court, 20), laws), 1, 1, NONE);
        // 66 of 66 by the last two
        planIs(Check.made(String.format(court, 22), laws), NONE, 1, 1);
        // of 69: 12 and 48 tomorrow, and half of 18
        planIs(Check.made(String.format(court, 23), laws), 1, 1, 0);
        // of 72: 48 and 18 tomorrow, and half of 12
        planIs(Check.made(String.format(court, 24), laws), 0, 1, 1);
        planIs(Check.made(String.format(court, 25), laws), NONE, NONE, NONE);
        planIs(Check.made(String.format(court, 25), laws + "from 2 1 9 3;"), 2, 2, 2);
    }

    // "by which it has 3 times NEED or more on that day": by moons, STRIKES, LAWS of each day
    private static void planByLaws() {
        HalvedProof x = Check.made("suit 30 99;witness 0 10 copied;witness 0 20 sworn;", "from 0 6 9 6;from 1 0 9 6;");
        due("today: 60 and 60", x.soonest(0), 0);
        x = Check.made("suit 30 99;witness 0 10 copied;witness 0 20 sworn;", "from 0 6 9 1;from 1 0 9 6;");
        due("tomorrow: 30 and 60", x.soonest(0), 1);
        planIs(x, 0, 1);
        x = Check.made(NEVER + "suit 7 99 on 0;witness 1 4 sworn;witness 1 6 sworn;", "from 0 1 3 6;");
        x.say(1);
        x.dusk(1);
        // 9 and 12 now
        due("21 of 21", x.soonest(1), 0);
        planIs(x, 0, NONE);
        x = Check.made(NEVER + "suit 7 99 on 0;witness 1 4 sworn;witness 1 6 sworn;", "from 0 1 3 6;");
        x.say(1);
        x.dusk(2);
        // 4.5 and 12; tomorrow 18 and 12 and 2.25
        due("tomorrow", x.soonest(1), 1);
        planIs(x, 1, 1);
        Check.laws(x, "from 0 1 3 1;");
        planIs(x, 0, 1);
    }

    // "plan: .. NONE: it does not, or there is no SOONEST"
    private static void planNone() {
        HalvedProof x = Check.made(NEVER + "suit 4 99 on 0;suit 9 9;witness 1 4 sworn;witness 1 4 sworn;witness 2 8 sworn;", "");
        planIs(x, 0, NONE, NONE);
        x.say(1);
        due("without anybody", x.soonest(1), 0);
        planIs(x, NONE, NONE, NONE);
        x.dusk(1);
        planIs(x, 0, NONE, NONE);
        x.strike(0, true);
        planIs(x, NONE, 27, NONE);
        x.strike(1, true);
        planIs(x, NONE, NONE, NONE);
    }

    // "TO STRIKE: the SET of fewest of its WITNESSES without which SOONEST is NONE"
    private static void cutOfFewest() {
        HalvedProof x = Check.made("suit 9 9;suit 6 9;witness 0 1 sworn;witness 1 2 sworn;witness 1 2 sworn;witness 1 2 sworn;witness 0 9 sworn;witness 1 6 sworn;",
                "from 0 1 9 6;");
        due("the one", x.cut(0), 16);
        due("the one, and one of three", x.cut(1), 34);
        x.strike(5, true);
        due("one of three", x.cut(1), 2);
        x.strike(5, false);
        x.strike(3, true);
        due("the one alone", x.cut(1), 32);
        due("the other SUIT", x.cut(0), 16);
    }

    // "of like ones the least"
    private static void cutOfLeast() {
        // any two of 5 together are enough: four must go, the least SET leaves the last
        HalvedProof x = Check.made("suit 4 9;" + "witness 0 2 sworn;".repeat(5), "from 0 1 9 6;");
        due("four of five", x.cut(0), 15);
        x.strike(0, true);
        due("three of four", x.cut(0), 14);
        // {1, 2} stops all, {0, 3} does, too: 0 with 1, 0 with 2, 3 with 1, 3 with 2
        x = Check.made("suit 10 9;witness 0 9 sworn;witness 0 1 sworn;witness 0 1 sworn;witness 0 9 sworn;", "from 0 1 9 6;");
        due("0 or 3 with any", x.cut(0), 9);
        x = Check.made("suit 9 99;witness 0 2 sworn;witness 0 7 sworn;witness 0 2 sworn;witness 0 7 sworn;", "from 0 1 9 6;");
        due("both of 7, or both of 2 and one of 7", x.cut(0), 10);
    }

    // "its WITNESSES", "6 of one SUIT": all of them
    private static void cutOfAll() {
        HalvedProof x = Check.made("suit 1 9;suit 1 9;" + "witness 0 1 sworn;witness 1 1 sworn;".repeat(6), "from 0 1 9 1;");
        due("bits 0, 2, ..", x.cut(0), 1365);
        due("bits 1, 3, ..", x.cut(1), 2730);
        x.strike(11, true);
        x.strike(0, true);
        due("but the STRUCK", x.cut(0), 1364);
        due("but the STRUCK", x.cut(1), 682);
    }

    // "without which SOONEST is NONE": the empty SET if it is NONE with all
    private static void cutIsEmpty() {
        HalvedProof x = Check.made("suit 2 9;suit 1 9;witness 0 1 sworn;witness 1 1 sworn;", "");
        due("too little", x.cut(0), 0);
        x.strike(1, true);
        due("STRUCK already", x.cut(1), 0);
    }

    // "NONE: it is won on day 0 without anybody"
    private static void cutNone() {
        HalvedProof x = Check.made(NEVER + "suit 4 9 on 0;witness 1 4 sworn;witness 1 5 sworn;witness 1 11 copied;witness 1 1 copied;", "from 0 1 60 3;");
        x.say(0);
        due("12 of 12", x.cut(1), NONE);
        x.say(1);
        due("27 of 12", x.cut(1), NONE);
        x.dusk(1);
        due("13.5 of 12", x.cut(1), NONE);
        x.dusk(1);
        due("6.75 and 11", x.cut(1), 4);
        x.begin();
        x.say(2);
        due("11 of 12 with one of 1, 12, 15", x.cut(1), 11);
        x.say(3);
        due("12 of 12", x.cut(1), NONE);
        x.dusk(10);
        due("FELL", x.cut(1), NOT);
    }

    // "SOONEST", on days "0 .. 30 from now, DAY 399 at the most"
    private static void cutWithinBounds() {
        HalvedProof x = Check.made(NEVER + "suit 1 399 on 0;witness 1 1 sworn;witness 1 1 sworn;", "from 0 1 60 6;");
        x.say(0);
        x.dusk(29);
        due("one of them not in 31 days", x.cut(1), 2);
        x.dusk(1);
        due("both in 30 days", x.cut(1), 3);
        x.begin();
        x.dusk(340);
        x.say(0);
        x.dusk(50);
        due("one of them not by DAY 399", x.cut(1), 2);
        x.begin();
        x.dusk(339);
        x.say(0);
        x.dusk(50);
        due("both by DAY 399", x.cut(1), 3);
    }

    private static HalvedProof twelves(int witnesses, int need) {
        return Check.made("suit " + need + " 9;" + "witness 0 4 sworn;".repeat(witnesses), "from 0 1 9 1;");
    }

    // "day by day: its side must call one .., then the other side must strike one .., then it is DUSK; till nobody is left to call"
    private static void turnsOfOneToSix() {
        // 12; then 6 and 12; then 9 and 12
        int[] reached = {0, 12, 12, 18, 18, 21, 21};
        for (int n = 0; n <= 6; n++) {
            for (int need = 1; need <= 8; need++) {
                boolean is = reached[n] >= 3 * need;
                HalvedProof x = twelves(n, need);
                due(n + " of 12, NEED " + need, x.turns(0, 0), is ? 1 : 0);
                due("BEST CALL of " + n + ", NEED " + need, x.turns(0, 1), is ? 0 : NONE);
            }
        }
    }

    // "then the other side must strike one of these that was not called": it strikes the best, its side foresees it
    private static void turnsMustStrike() {
        HalvedProof x = Check.made("suit 5 9;witness 0 1 sworn;witness 0 4 sworn;witness 0 1 sworn;", "");
        // 3, then without 12: 1.5 and 3; 12, then 6 and 3
        due("12 and 3 and 3", x.turns(0, 0), 0);
        // 3 is called, 12 cannot be struck for both
        x = Check.made("suit 4 9;witness 0 1 sworn;witness 0 3 sworn;witness 0 4 sworn;", "");
        due("12 at once", x.turns(0, 1), 2);
        x.strike(2, true);
        due("3, without 9; 9, without 3", x.turns(0, 0), 0);
    }

    // "BEST CALL: the least WITNESS with whom called first it is so"
    private static void turnsBestCall() {
        // of 15: 6 first, then 3 and 12 whichever 12 is struck; with 12 first the other 12 is struck: 6 and 6
        HalvedProof x = Check.made("suit 9 9;suit 5 9;witness 0 9 sworn;witness 1 4 sworn;witness 1 2 sworn;witness 1 4 sworn;", "");
        due("WON IN TURN", x.turns(1, 0), 1);
        due("by the lightest", x.turns(1, 1), 2);
        x.strike(1, true);
        due("without one of 12", x.turns(1, 0), 0);
        due("NONE", x.turns(1, 1), NONE);
        // of 12: 3 first, then 1.5 and 9; 9 first, then 4.5 and 3; or 15 at once
        x = Check.made("suit 4 9;witness 0 1 sworn;witness 0 5 sworn;witness 0 3 sworn;", "");
        due("the one that is enough", x.turns(0, 1), 1);
        x = Check.made("suit 4 9;witness 0 1 sworn;witness 0 5 sworn;witness 0 5 sworn;", "");
        due("any of them: the least", x.turns(0, 1), 0);
    }

    // "at some time (now, too)"
    private static void turnsNow() {
        HalvedProof x = Check.made(NEVER + "suit 4 9 on 0;witness 1 4 sworn;witness 1 1 sworn;witness 1 1 sworn;", "from 0 1 9 2;");
        x.say(0);
        due("now", x.turns(1, 0), 1);
        due("whoever is called first", x.turns(1, 1), 1);
        x.strike(1, true);
        due("whoever is called first", x.turns(1, 1), 2);
        x.strike(2, true);
        due("now, without anybody", x.turns(1, 0), 1);
        due("nobody to call", x.turns(1, 1), NONE);
        x.dusk(1);
        due("not any more", x.turns(1, 0), 0);
        x.strike(1, false);
        due("6 and 3", x.turns(1, 0), 0);
        x = Check.made("suit 4 9;witness 0 4 sworn;", "");
        x.dusk(3);
        due("when the first is called", x.turns(0, 0), 1);
    }

    // "(T, LAWS of later days are not looked at: FRESH weight as today; each once)"
    private static void turnsLookNotAtLaterDays() {
        HalvedProof x = Check.made("suit 6 9;suit 9 9;" + "witness 0 4 copied;".repeat(3) + "witness 1 1 sworn;", "from 0 3 1 1;from 1 0 1 1;");
        due("C of today", x.turns(0, 0), 1);
        x.say(3);
        due("T is used up", x.turns(0, 0), 1);
        due("T is used up", x.turns(0, 1), 0);
        x.dusk(1);
        due("C of that day", x.turns(0, 0), 0);
        x = Check.made("suit 6 9;" + "witness 0 4 copied;".repeat(6), "from 0 2 9 6;from 1 6 9 6;");
        due("more tomorrow", x.turns(0, 0), 0);
        x = Check.made("suit 6 9;witness 0 5 sworn;", "from 0 1 1 6;");
        due("each once", x.turns(0, 0), 0);
    }

    // "its WITNESSES that are not STRUCK and may today by moons"
    private static void turnsByMoonsAndStrikes() {
        HalvedProof x = Check.made("suit 4 99;witness 0 1 sworn;witness 0 1 shown;witness 0 3 sworn;witness 0 3 sworn;", "from 0 1 2 6;");
        // 12: 3 first, then 1.5 and 9; 9 first, then 4.5 and 3 (the other 9 is struck)
        due("3, 3, 9, 9", x.turns(0, 0), 0);
        x.say(1);
        due("3 now, and 9; or and 3, then 3 and 9", x.turns(0, 1), 0);
        x.dusk(1);
        due("1.5, and 3, 9, 9", x.turns(0, 0), 0);
        x = Check.made("suit 4 99;witness 0 4 shown;witness 0 4 against;", "from 0 1 2 6;");
        x.strike(1, true);
        due("by the one that shows", x.turns(0, 1), 0);
        x.strike(0, true);
        due("both STRUCK", x.turns(0, 0), 0);
        x.strike(1, false);
        due("by the other", x.turns(0, 1), 1);
        x = Check.made(NEVER + "suit 4 99 on 0;witness 1 6 sworn;", "from 0 1 3 6;");
        x.say(0);
        x.dusk(1);
        due("in its moon: 9 of 12", x.turns(1, 0), 0);
        x.dusk(1);
        due("its moon is over tomorrow, not today", x.turns(1, 0), 0);
        due("NONE", x.turns(1, 1), NONE);
        x.dusk(1);
        due("its moon is over", x.turns(1, 1), 0);
        x = Check.made(NEVER + "suit 4 99 on 0;witness 1 6 shown;", "from 0 1 1 6;");
        x.say(0);
        x.dusk(1);
        due("it showed", x.turns(1, 0), 0);
    }

    // "3 times NEED or more", "exactly"
    private static void turnsExactly() {
        String court = "suit 3 9;witness 0 %d copied;witness 0 6 copied;witness 0 6 copied;";
        due("3 and 6 of 9", Check.made(String.format(court, 6), "").turns(0, 0), 1);
        due("2.5 and 6, or 3 and 5", Check.made(String.format(court, 5), "").turns(0, 0), 0);
        HalvedProof x = Check.made("suit 3 9;witness 0 1 copied;witness 0 8 copied;", "");
        x.say(0);
        x.dusk(1);
        due("0.5 and 8", x.turns(0, 0), 0);
        x = Check.made("suit 3 9;witness 0 2 copied;witness 0 8 copied;", "");
        x.say(0);
        x.dusk(1);
        due("1 and 8", x.turns(0, 0), 1);
    }

    // "turns: what = 0 .., 1 .. UNKNOWN, OUTSIDE, NOT"; "UNKNOWN .., OUTSIDE .., NOT": in this order
    private static void turnsBounds() {
        HalvedProof x = Check.made("suit 1 9;suit 9 1;suit 9 9;witness 0 1 sworn;", "");
        x.say(0);
        x.dusk(2);
        for (int s = 0; s < 3; s++) {
            due("below", x.turns(s, -1), OUTSIDE);
            due("above", x.turns(s, 2), OUTSIDE);
            due("WON, FELL", x.turns(s, 0), s < 2 ? NOT : 0);
            due("WON, FELL", x.turns(s, 1), s < 2 ? NOT : NONE);
        }
        due("no such", x.turns(3, 0), UNKNOWN);
        due("no such", x.turns(3, 2), UNKNOWN);
        due("no such", x.turns(-1, -1), UNKNOWN);
    }

    private static void manyIs(HalvedProof x, int set) {
        due("how many", x.many(0), Integer.bitCount(set));
        due("THE ORDER's SET", x.many(1), set);
    }

    // "as far as T lets them", "6 SUITS", "T, 1 .. 6"
    private static void manyOfSix() {
        String court = "suit 1 9;".repeat(6);
        for (int s = 0; s < 6; s++) {
            court += "witness " + s + " 1 sworn;";
        }
        for (int t = 1; t <= 6; t++) {
            HalvedProof x = Check.made(court, "from 0 1 9 " + t + ";");
            manyIs(x, (1 << t) - 1);
            x.strike(0, true);
            manyIs(x, t == 6 ? 62 : (2 << t) - 2);
            x.strike(0, false);
            x.say(1);
            // one place is taken, and 1 IS WON
            manyIs(x, t == 1 ? 0 : t == 2 ? 1 : (1 << t) - 3);
        }
        HalvedProof x = Check.made(court, "from 0 1 9 1;");
        due("below", x.many(-1), OUTSIDE);
        due("above", x.many(2), OUTSIDE);
        due("least", x.many(Integer.MIN_VALUE), OUTSIDE);
        due("greatest", x.many(Integer.MAX_VALUE), OUTSIDE);
    }

    // "till it has 3 times NEED or more"
    private static void manyTillEnough() {
        String first = "suit 2 9;suit 1 9;witness 0 %d copied;witness 0 1 copied;witness 0 9 copied;witness 1 3 copied;";
        manyIs(Check.made(String.format(first, 6), "from 0 1 9 2;"), 3);
        manyIs(Check.made(String.format(first, 5), "from 0 1 9 2;"), 1);
        manyIs(Check.made(String.format(first, 5), "from 0 1 9 3;"), 3);
        manyIs(Check.made(String.format(first, 4), "from 0 1 9 3;"), 1);
        manyIs(Check.made(String.format(first, 4), "from 0 1 9 4;"), 3);
        manyIs(Check.made(String.format(first, 4), "from 0 0 9 4;"), 0);
    }

    // "each with all WITNESSES of it that MAY SPEAK today .., by rising numbers"
    private static void manyByRisingNumbers() {
        HalvedProof x = Check.made("suit 3 9;witness 0 1 copied;witness 0 3 sworn;witness 0 1 sworn;", "from 0 0 9 1;");
        manyIs(x, 0);
        x.strike(0, true);
        manyIs(x, 1);
        x.strike(0, false);
        Check.laws(x, "from 0 0 9 2;");
        manyIs(x, 1);
        x.strike(1, true);
        manyIs(x, 0);
        x = Check.made(NEVER + "suit 3 9 on 0;witness 1 2 sworn;witness 1 1 shown;witness 1 2 sworn;", "from 0 1 2 2;");
        manyIs(x, 2);
        x.say(1);
        // 3, and one place: 6 more
        manyIs(x, 2);
        x.dusk(1);
        // 1.5; the one that showed takes no place
        manyIs(x, 2);
        x.say(0);
        // 7.5, and one place
        manyIs(x, 2);
        x.dusk(1);
        // 3.75; the first is in its moon
        manyIs(x, 2);
    }

    // "how many .. at the most; THE ORDER's SET of those: of like ones the least" (as a number: {1, 2} is less than {0, 3})
    private static void manyLeastSet() {
        String court = "suit 3 9;suit 2 9;suit 2 9;suit 1 9;" + "witness 0 1 sworn;".repeat(3) + "witness 1 1 sworn;".repeat(2)
                + "witness 2 1 sworn;".repeat(2) + "witness 3 1 sworn;";
        int[] sets = {0, 8, 2, 10, 6, 14, 11};
        for (int t = 1; t <= 6; t++) {
            manyIs(Check.made(court, "from 0 1 9 " + t + ";"), sets[t]);
        }
    }

    // "till it has 3 times NEED or more": one that has so much already takes nobody
    private static void manyThatNeedNobody() {
        HalvedProof x = Check.made(NEVER + "suit 1 9 on 0;suit 1 9;witness 1 2 sworn;witness 1 2 sworn;witness 2 1 sworn;", "from 0 1 9 1;");
        manyIs(x, 2);
        x.say(0);
        manyIs(x, 2);
        x.dusk(1);
        manyIs(x, 6);
        x.dusk(1);
        manyIs(x, 2);
        x.strike(2, true);
        manyIs(x, 2);
        x.strike(1, true);
        manyIs(x, 0);
    }

    // "SUITS that go on"
    private static void manyThatGoOn() {
        HalvedProof x = Check.made("suit 1 9;suit 9 1;suit 1 9;witness 0 1 sworn;witness 0 1 sworn;witness 1 9 sworn;witness 2 1 sworn;", "from 0 1 9 6;");
        manyIs(x, 7);
        x.say(0);
        manyIs(x, 6);
        x.dusk(2);
        manyIs(x, 4);
        x.dusk(8);
        manyIs(x, 0);
        x.begin();
        manyIs(x, 7);
        manyIs(new HalvedProof(), 0);
    }
}
