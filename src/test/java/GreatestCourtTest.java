/**
 * "6 SUITS at most", "12 WITNESSES at most, 6 of one SUIT": all that is asked of the sixth SUIT and of the 12th WITNESS.
 * What holds for the first ones must hold for the last ones, too.
 */
public final class GreatestCourtTest {
    private static final int NONE = HalvedProof.NONE, UNKNOWN = HalvedProof.UNKNOWN, NOT = HalvedProof.NOT, FULL = HalvedProof.FULL;
    private static final int GOES_ON = 0, WON = 1, FELL = 2;
    private static final int LAST_SUIT = 5, LAST = 11;
    /** Five SUITS, and six WITNESSES of the first one. */
    private static final String AHEAD = "suit 999 399;".repeat(5) + "%s" + "witness 0 1 sworn;".repeat(6);
    private static final Check CHECK = new Check();

    public static void main(String[] args) {
        toldInTexts();
        noneBehindTheLast();
        saidAndHalved();
        wonAndFell();
        struck();
        shown();
        booksOfTheLast();
        imagesOfTheLast();
        imagesOfEnds();
        begunAnew();
        drawnTheLast();
        mostSoonestPlan();
        cutTheLast();
        turnsCallTheLast();
        turnsStrikeTheLast();
        manyWithTheLast();
        CHECK.end();
    }

    private static void due(String call, int got, int want) {
        CHECK.due(call, got, want);
    }

    /** The sixth SUIT as told, and six WITNESSES of it, 6 to 11, with these weights. */
    private static HalvedProof made(String suit, String laws, String kind, int... weights) {
        StringBuilder b = new StringBuilder(String.format(AHEAD, suit));
        for (int weight : weights) {
            b.append("witness 5 ").append(weight).append(' ').append(kind).append(';');
        }
        return Check.made(b.toString(), laws);
    }

    private static HalvedProof ordinary() {
        return made("suit 999 398 on 4;", "from 0 1 5 6;", "sworn", 1, 2, 3, 4, 5, 7);
    }

    // "What has a number has it from 0 on, as it comes. A SET .. bit k for k"
    private static void toldInTexts() {
        HalvedProof x = ordinary();
        due("SUITS", x.told(0), 6);
        due("WITNESSES", x.told(1), 12);
        int[] suit = {999, 398, 4, GOES_ON, NONE, 0xFC0};
        for (int i = 0; i < suit.length; i++) {
            due("suit(5, " + i + ")", x.suit(LAST_SUIT, i), suit[i]);
        }
        due("WITNESSES of the first", x.suit(0, 5), 0x3F);
        due("WITNESSES of the fifth", x.suit(4, 5), 0);
        int[] witness = {5, 7, 0, 21, NONE, 0, 0, 1};
        for (int i = 0; i < witness.length; i++) {
            due("witness(11, " + i + ")", x.witness(LAST, i), witness[i]);
        }
    }

    private static void noneBehindTheLast() {
        HalvedProof x = ordinary();
        due("SUIT 6", x.suit(6, 0), UNKNOWN);
        due("SUIT 6", x.weight(6, NONE), UNKNOWN);
        due("SUIT 6", x.most(6, 0), UNKNOWN);
        due("SUIT 6", x.soonest(6), UNKNOWN);
        due("SUIT 6", x.cut(6), UNKNOWN);
        due("SUIT 6", x.turns(6, 0), UNKNOWN);
        due("SUIT 6", x.write(6, 0), UNKNOWN);
        due("SUIT 6", x.tear(6), UNKNOWN);
        due("SUIT 6", x.judge(6), UNKNOWN);
        due("SUIT 6", x.evening(6, 0), UNKNOWN);
        due("WITNESS 12", x.witness(12, 0), UNKNOWN);
        due("WITNESS 12", x.say(12), UNKNOWN);
        due("WITNESS 12", x.strike(12, true), UNKNOWN);
        due("WITNESS 12", x.plan(12), UNKNOWN);
    }

    // "half as much on the next one, and so on: a SUIT's WEIGHT on a DAY is the sum, exactly"; "how many whole THIRDS a SUIT weighed"
    private static void saidAndHalved() {
        HalvedProof x = ordinary();
        due("says", x.say(LAST), GOES_ON);
        due("21", x.weight(LAST_SUIT, NONE), 21);
        due("its last DAY", x.witness(LAST, 4), 0);
        due("once", x.witness(LAST, 5), 1);
        due("not again", x.say(LAST), NOT);
        due("one spoke", x.told(5), 1);
        x.dusk(1);
        due("10.5", x.weight(LAST_SUIT, NONE), 10);
        due("10.5", x.weight(LAST_SUIT, 0), 1);
        x.dusk(2);
        // 21 / 8 = 10.101
        due("2.625", x.weight(LAST_SUIT, NONE), 2);
        due("halves", x.weight(LAST_SUIT, 0), 1);
        due("fourths", x.weight(LAST_SUIT, 1), 0);
        due("eighths", x.weight(LAST_SUIT, 2), 1);
        x.dusk(2);
        due("again in a moon", x.say(LAST), GOES_ON);
        due("twice", x.witness(LAST, 5), 2);
        due("on DAY 5", x.witness(LAST, 4), 5);
        due("21 and 21 / 32", x.weight(LAST_SUIT, NONE), 21);
        due("21 / 32 = .10101", x.weight(LAST_SUIT, 4), 1);
        due("DAY 0", x.evening(LAST_SUIT, 0), 21);
        due("DAY 2", x.evening(LAST_SUIT, 2), 5);
        due("DAY 4", x.evening(LAST_SUIT, 4), 1);
        x.dusk(394);
        due("21 of DAY 0", x.weight(LAST_SUIT, 398), 1);
        due("21 of DAY 0 and 21 of DAY 5", x.weight(LAST_SUIT, 393), 1);
        due("evening of 398", x.evening(LAST_SUIT, 398), 0);
        for (int s = 0; s < LAST_SUIT; s++) {
            due("the others weigh nothing", x.evening(s, 0), 0);
        }
    }

    // "A SUIT IS WON as soon as its WEIGHT is 3 times NEED or more"; "At DUSK (the end of DAY L) one that is not WON by then FALLS"
    private static void wonAndFell() {
        HalvedProof x = made("suit 7 2;", "from 0 1 5 6;", "sworn", 1, 2, 3, 4, 5, 7);
        due("18 of 21", x.say(7), GOES_ON);
        x.keep(0);
        due("IS WON", x.say(LAST), WON);
        due("how", x.suit(LAST_SUIT, 3), WON);
        due("when", x.suit(LAST_SUIT, 4), 0);
        x.goBack(0);
        due("may again", x.witness(LAST, 7), 1);
        x.dusk(2);
        due("not yet", x.suit(LAST_SUIT, 3), GOES_ON);
        x.dusk(1);
        due("FELL", x.suit(LAST_SUIT, 3), FELL);
        due("on DAY 2", x.suit(LAST_SUIT, 4), 2);
        due("may not", x.witness(LAST, 7), 0);
        due("does not", x.say(LAST), NOT);
    }

    // "A WITNESS is STRUCK, or not any more"
    private static void struck() {
        HalvedProof x = ordinary();
        due("was not", x.strike(LAST, true), 0);
        due("is", x.witness(LAST, 6), 1);
        due("may not", x.say(LAST), NOT);
        for (int w = 0; w < LAST; w++) {
            due("no other is", x.witness(w, 6), 0);
        }
        due("was", x.strike(LAST, false), 1);
        due("may", x.say(LAST), GOES_ON);
    }

    // "one that shows speaks once for ever"
    private static void shown() {
        HalvedProof x = made("suit 999 399;", "from 0 1 1 6;", "shown", 1, 2, 3, 4, 5, 6);
        x.say(LAST);
        x.dusk(60);
        due("never again", x.say(LAST), NOT);
        due("nor is it counted on", x.most(LAST_SUIT, 30), 45);
        x.begin();
        due("nothing is SAID then", x.say(LAST), GOES_ON);
    }

    // "THE BOOK of a SUIT tells for evenings from DAY 0 on (60 at most)"
    private static void booksOfTheLast() {
        HalvedProof x = ordinary();
        x.say(LAST);
        for (int day = 0; day < 59; day++) {
            due("evening " + day, x.write(LAST_SUIT, day < 6 ? 21 >> day : 0), day + 1);
        }
        due("the 60th", x.write(LAST_SUIT, 1), 60);
        due("a 61st", x.write(LAST_SUIT, 0), FULL);
        due("the fifth has its own", x.write(4, 9), 1);
        due("none is over", x.judge(LAST_SUIT), NONE);
        x.dusk(59);
        due("59 are right", x.judge(LAST_SUIT), NONE);
        x.dusk(1);
        due("the 60th is WRONG", x.judge(LAST_SUIT), 59);
        due("of the fifth the first", x.judge(4), 0);
        due("torn", x.tear(LAST_SUIT), 60);
        due("none any more", x.judge(LAST_SUIT), NONE);
        due("the fifth stays", x.tear(4), 1);
        x.write(LAST_SUIT, 20);
        due("20 is not 21", x.judge(LAST_SUIT), 0);
        Check.court(x, String.format(AHEAD, "suit 1 1;"));
        due("no BOOKS in a new COURT", x.tear(LAST_SUIT), 0);
    }

    // "IMAGES 0, 1 keep what was SAID, WEIGHTS, THE DAY, STRIKES, SUITS' ends, evenings that are over"
    private static void imagesOfTheLast() {
        for (int i = 0; i < 2; i++) {
            HalvedProof x = ordinary();
            x.say(LAST);
            x.dusk(1);
            x.say(10);
            x.strike(LAST, true);
            x.keep(i);
            x.begin();
            x.dusk(3);
            due("nothing was SAID", x.evening(LAST_SUIT, 0), 0);
            x.say(LAST);
            x.keep(1 - i);
            x.goBack(i);
            due("DAY", x.told(3), 1);
            due("STRUCK", x.witness(LAST, 6), 1);
            due("SAID on DAY 0", x.witness(LAST, 4), 0);
            due("once", x.witness(LAST, 5), 1);
            due("SAID on DAY 1", x.witness(10, 4), 1);
            due("10.5 and 15", x.weight(LAST_SUIT, NONE), 25);
            due("10.5 and 15", x.weight(LAST_SUIT, 0), 1);
            due("21 on DAY 0", x.evening(LAST_SUIT, 0), 21);
            x.goBack(1 - i);
            due("DAY", x.told(3), 3);
            due("not STRUCK", x.witness(LAST, 6), 0);
            due("SAID on DAY 3", x.witness(LAST, 4), 3);
            due("once", x.witness(LAST, 5), 1);
            due("10 SAID nothing", x.witness(10, 5), 0);
            due("21", x.weight(LAST_SUIT, NONE), 21);
            due("nothing on DAY 0", x.evening(LAST_SUIT, 0), 0);
            due("nothing on DAY 2", x.evening(LAST_SUIT, 2), 0);
        }
    }

    // "SUITS' ends"; the last evening that can be over is that of DAY 398
    private static void imagesOfEnds() {
        HalvedProof x = made("suit 7 398;", "from 0 1 5 6;", "sworn", 1, 2, 3, 4, 5, 7);
        x.dusk(398);
        x.say(10);
        x.dusk(1);
        x.keep(0);
        x.begin();
        x.dusk(7);
        x.say(LAST);
        x.keep(1);
        x.begin();
        x.dusk(399);
        due("nothing was SAID on DAY 398", x.evening(LAST_SUIT, 398), 0);
        due("0 of DAY 398", x.weight(LAST_SUIT, 0), 0);
        x.goBack(0);
        due("FELL", x.suit(LAST_SUIT, 3), FELL);
        due("on DAY 398", x.suit(LAST_SUIT, 4), 398);
        due("15 on DAY 398", x.evening(LAST_SUIT, 398), 15);
        due("7.5 now", x.weight(LAST_SUIT, 0), 1);
        x.goBack(1);
        due("WON", x.suit(LAST_SUIT, 3), WON);
        due("on DAY 7", x.suit(LAST_SUIT, 4), 7);
        due("DAY 398 is not over", x.evening(LAST_SUIT, 398), NONE);
    }

    // "begin: DAY 0 again, nothing SAID, all goes on, nobody STRUCK"
    private static void begunAnew() {
        HalvedProof x = made("suit 7 9;", "from 0 1 5 6;", "sworn", 1, 2, 3, 4, 5, 7);
        x.strike(10, true);
        x.say(LAST);
        x.strike(LAST, true);
        x.dusk(2);
        due("IS WON", x.suit(LAST_SUIT, 3), WON);
        x.begin();
        due("goes on", x.suit(LAST_SUIT, 3), GOES_ON);
        due("no end", x.suit(LAST_SUIT, 4), NONE);
        due("weighs nothing", x.weight(LAST_SUIT, NONE), 0);
        due("nor behind the point", x.weight(LAST_SUIT, 0), 0);
        due("not STRUCK", x.witness(LAST, 6), 0);
        due("SAID nothing", x.witness(LAST, 4), NONE);
        due("SAID nothing", x.witness(LAST, 5), 0);
        due("may", x.witness(LAST, 7), 1);
    }

    // "a day: each WITNESS in order, with a DRAW of 100 below q, speaks, if it MAY"
    private static void drawnTheLast() {
        HalvedProof x = ordinary();
        due("T is 6: those of the first SUIT", x.drift(1, 100), 6);
        due("then those of the sixth", x.drift(1, 100), 6);
        due("the last on DAY 1", x.witness(LAST, 4), 1);
        due("66 thirds", x.evening(LAST_SUIT, 1), 66);
        long now = 0;
        for (int i = 0; i < 24; i++) {
            now = (now * 1103515245L + 12345L) % 2147483648L;
        }
        due("24 DRAWS", x.seed(0), (int) now);
    }

    // "THE MOST", "SOONEST", "THE PLAN"
    private static void mostSoonestPlan() {
        HalvedProof x = made("suit 14 399;", "from 0 1 60 1;", "sworn", 1, 2, 3, 4, 5, 14);
        due("THE MOST today", x.most(LAST_SUIT, 0), 42);
        due("42 and 7.5", x.most(LAST_SUIT, 1), 49);
        due("SOONEST", x.soonest(LAST_SUIT), 0);
        due("by the last", x.plan(LAST), 0);
        due("alone", x.plan(10), NONE);
        x.strike(LAST, true);
        due("without it never", x.soonest(LAST_SUIT), NONE);
        due("no PLAN", x.plan(LAST), NONE);
        due("15, 6, 2.25, .75, .1", x.most(LAST_SUIT, 4), 24);
        x = made("suit 16 399;", "from 0 1 60 1;", "sworn", 1, 2, 3, 4, 5, 14);
        due("42 and half of 12", x.soonest(LAST_SUIT), 1);
        due("the last tomorrow", x.plan(LAST), 1);
        due("the least SET", x.plan(9), 0);
        due("nobody else", x.plan(10), NONE);
        x.say(0);
        due("T is used up: tomorrow and the day behind it", x.soonest(LAST_SUIT), 2);
        due("the last then", x.plan(LAST), 2);
        due("the other tomorrow", x.plan(9), 1);
    }

    // "TO STRIKE: the SET of fewest of its WITNESSES without which SOONEST is NONE"
    private static void cutTheLast() {
        due("the last alone", made("suit 14 399;", "from 0 1 60 1;", "sworn", 1, 2, 3, 4, 5, 14).cut(LAST_SUIT), 1 << LAST);
        due("all of them", made("suit 1 399;", "from 0 1 60 1;", "sworn", 1, 2, 3, 4, 5, 14).cut(LAST_SUIT), 0xFC0);
        due("all but the least", made("suit 2 399;", "from 0 1 60 1;", "sworn", 1, 2, 3, 4, 5, 14).cut(LAST_SUIT), 0xF80);
    }

    // "its side must call one of its WITNESSES"
    private static void turnsCallTheLast() {
        HalvedProof x = made("suit 7 399;", "from 0 1 60 1;", "sworn", 1, 1, 1, 1, 1, 7);
        due("by the last", x.turns(LAST_SUIT, 0), 1);
        due("called first", x.turns(LAST_SUIT, 1), LAST);
        // 12, and then 6 and 12, whoever of 10 and 11 is struck
        x = made("suit 6 399;", "from 0 1 60 1;", "sworn", 4, 4, 4);
        due("by two of three", x.turns(LAST_SUIT, 0), 1);
        x = made("suit 6 399;", "from 0 1 60 1;", "sworn", 1, 1, 1, 4, 4, 4);
        for (int w = 6; w < 9; w++) {
            x.strike(w, true);
        }
        due("by two of the last three", x.turns(LAST_SUIT, 0), 1);
        due("any of them first", x.turns(LAST_SUIT, 1), 9);
        x.strike(LAST, true);
        due("of two one is struck", x.turns(LAST_SUIT, 0), 0);
    }

    // "then the other side must strike one of these that was not called"
    private static void turnsStrikeTheLast() {
        HalvedProof x = made("suit 6 399;", "from 0 1 60 1;", "sworn", 1, 1, 1, 1, 4, 4);
        for (int w = 6; w < 10; w++) {
            x.strike(w, true);
        }
        due("10 is called, the last is struck", x.turns(LAST_SUIT, 0), 0);
        due("nobody", x.turns(LAST_SUIT, 1), NONE);
        x = made("suit 7 399;", "from 0 1 60 1;", "sworn", 1, 1, 1, 1, 1, 6);
        due("18 of 21, or 3 and 1.5, and the last is struck", x.turns(LAST_SUIT, 0), 0);
    }

    // "each with all WITNESSES of it that MAY SPEAK today as far as T lets them, by rising numbers, till it has 3 times NEED or more"
    private static void manyWithTheLast() {
        HalvedProof x = made("suit 10 399;", "from 0 1 60 6;", "sworn", 1, 1, 1, 1, 1, 5);
        due("all six are needed", x.many(0), 1);
        due("of the sixth SUIT", x.many(1), 1 << LAST_SUIT);
        Check.laws(x, "from 0 1 60 5;");
        due("T keeps the last from it", x.many(0), 0);
        x.strike(6, true);
        due("27 of 30 without the first", x.many(0), 0);
        x = made("suit 9 399;", "from 0 1 60 5;", "sworn", 1, 1, 1, 1, 1, 5);
        due("T keeps the last from it", x.many(0), 0);
        x.strike(6, true);
        due("27 of 27 by the last five", x.many(1), 1 << LAST_SUIT);
        x.say(0);
        due("one place less", x.many(1), 0);
    }
}
