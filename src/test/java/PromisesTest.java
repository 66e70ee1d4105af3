/** Promise by promise: ordinary inputs, the edges that the document names, wrong inputs. All are told by hand. */
public final class PromisesTest {
    private static final int NONE = HalvedProof.NONE, UNKNOWN = HalvedProof.UNKNOWN, OUTSIDE = HalvedProof.OUTSIDE;
    private static final int NOT = HalvedProof.NOT, FULL = HalvedProof.FULL;
    private static final Check CHECK = new Check();

    public static void main(String[] args) {
        newObject();
        feed();
        court();
        courtFaults();
        courtLeavesAndForgets();
        laws();
        lawsFaults();
        fault();
        told();
        suit();
        witness();
        witnessMaySpeak();
        weight();
        say();
        sayWins();
        strike();
        dusk();
        duskEnds();
        drift();
        begin();
        most();
        mostByLaws();
        soonest();
        plan();
        planTies();
        cut();
        turns();
        many();
        write();
        tear();
        judge();
        evening();
        seed();
        keepAndGoBack();
        CHECK.end();
    }

    private static void due(String call, int got, int want) {
        CHECK.due(call, got, want);
    }

    // ---- 1

    private static void newObject() {
        HalvedProof x = new HalvedProof();
        int[] want = {0, 0, 0, 0, 0, 0, 1, 28, 2};
        for (int i = 0; i < want.length; i++) {
            due("1: told " + i, x.told(i), want[i]);
        }
        due("1: no SUIT", x.suit(0, 0), UNKNOWN);
        due("1: no WITNESS", x.witness(0, 0), UNKNOWN);
        due("1: no FAULT", x.fault(), NONE);
        due("1: THE SEED", x.seed(0), 0);
        due("1: no IMAGE", x.goBack(0), NOT);
        due("1: nothing to win", x.many(0), 0);
    }

    // ---- 2

    private static void feed() {
        HalvedProof x = new HalvedProof();
        due("2: none", x.feed(0, 0), OUTSIDE);
        due("2: nine", x.feed(9, 0), OUTSIDE);
        due("2: less", x.feed(-1, 0), OUTSIDE);
        due("2: least", x.feed(Integer.MIN_VALUE, 0), OUTSIDE);
        due("2: one, the lowest", x.feed(1, 0x73753bL), 1);
        due("2: told", x.told(4), 1);
        due("2: court of ;", x.court(), -11);
        // 'suit1 1;' without the upper bytes of the first long
        due("2: three", x.feed(3, 0x7878787878737569L), 3);
        due("2: eight more", x.feed(8, 0x7420312031202020L), 11);
        due("2: one more", x.feed(1, ';'), 12);
        due("2: the highest first", x.court(), 1);
        for (int i = 1; i <= 62; i++) {
            due("2: " + i, x.feed(8, -1), 8 * i);
        }
        due("2: five would be 501", x.feed(5, -1), FULL);
        due("2: OUTSIDE is ahead of FULL", x.feed(9, -1), OUTSIDE);
        due("2: nothing came", x.told(4), 496);
        due("2: four are 500", x.feed(4, -1), 500);
        due("2: one more", x.feed(1, -1), FULL);
        due("2: court of other bytes", x.court(), -11);
        due("2: at the first", x.fault(), 0);
    }

    // ---- 3

    private static void courtIs(String text, int want, int place) {
        HalvedProof x = new HalvedProof();
        due("3: court '" + text + "'", Check.court(x, text), want);
        due("3: fault of '" + text + "'", x.fault(), place);
        due("3: text is empty", x.told(4), 0);
        due("3: as many SUITS", x.told(0), Math.max(0, want));
    }

    private static void court() {
        courtIs("", 0, NONE);
        courtIs("     ", 0, NONE);
        courtIs("suit 1 1;", 1, NONE);
        courtIs("  suit1 1  ;  ", 1, NONE);
        courtIs("suit 999 399;suit 001 09on0;suit 5 5 on 1;", 3, NONE);
        courtIs("suit5 5;witness0 9sworn;witness 0 099 against ;", 1, NONE);
        courtIs("suit 5 5;suit 5 5;suit 5 5;suit 5 5;suit 5 5;suit 5 5 on 4;", 6, NONE);
        String six = "suit 1 1;witness 0 1 sworn;witness 0 1 sworn;witness 0 1 shown;"
                + "witness 0 1 copied;witness 0 1 against;witness 0 1 sworn;";
        courtIs(six, 1, NONE);
        courtIs(six + "suit 1 1;witness 1 1 sworn;", 2, NONE);
    }

    private static void courtFaults() {
        courtIs(";", -11, 0);
        courtIs("  5", -11, 2);
        courtIs("sui", -11, 0);
        courtIs("suits 5 5;", -11, 0);
        courtIs("suita 5 5;", -11, 0);
        courtIs("suitz 5 5;", -11, 0);
        courtIs("Suit 5 5;", -11, 0);
        courtIs("from 1 1 1 1;", -11, 0);
        courtIs("on", -11, 0);
        courtIs("suit", -11, 4);
        courtIs("suit  ", -11, 6);
        courtIs("suit 5 5", -11, 8);
        courtIs("suit 5 5;suit", -11, 13);
        courtIs("suit ;", -11, 5);
        courtIs("suit on", -11, 5);
        courtIs("suit 5;", -11, 6);
        courtIs("suit 5 5;;", -11, 9);
        courtIs("suit 5 5 5;", -11, 9);
        courtIs("suit 5 5 5555;", -11, 9);
        courtIs("suit 5 5 suit", -11, 9);
        courtIs("suit 5 5;suit 5 5 on;", -11, 20);
        courtIs("suit 5 5;suit 5 5 on 0 0;", -11, 23);
        courtIs("suit 5 5;suit 5 5 onx 0;", -11, 18);
        courtIs("suit\t5 5;", -11, 4);
        courtIs("suit 5 5;\u00e9", -11, 9);
        courtIs("suit 5 5;\u0000", -11, 9);
        courtIs("suit 5 5;witness 0 5;", -11, 20);
        courtIs("suit 5 5;witness 0 5 swornly;", -11, 21);
        courtIs("suit 5 5;witness 0 5 swor;", -11, 21);
        courtIs("suit 5 5;witness 0 5 7;", -11, 21);
        courtIs("suit 5 5;witness 0 5 sworn", -11, 26);
        courtIs("suit 5 5;witness 0 5 sworn shown;", -11, 27);
        courtIs("suit 0 5;", -12, 5);
        courtIs("suit 000 5;", -12, 5);
        courtIs("suit 1000 5;", -12, 5);
        courtIs("suit 0001 5;", -12, 5);
        courtIs("suit 99999999999999999999 5;", -12, 5);
        courtIs("suit 4294967297 5;", -12, 5);
        courtIs("suit 1 0;", -12, 7);
        courtIs("suit 1 400;", -12, 7);
        courtIs("suit 5 5 on 0;", -12, 12);
        courtIs("suit 5 5;suit 5 5 on 1;", -12, 21);
        courtIs("witness 0 5 sworn;", -12, 8);
        courtIs("suit 5 5;witness 1 5 sworn;", -12, 17);
        courtIs("suit 5 5;witness 0 0 sworn;", -12, 19);
        courtIs("suit 5 5;witness 0 100 sworn;", -12, 19);
        String suits = "suit 1 1;suit 1 1;suit 1 1;suit 1 1;suit 1 1;suit 1 1;";
        courtIs(suits + "suit 0 0;", -13, suits.length());
        courtIs(suits + "suit", -13, suits.length());
        courtIs(suits + "suitx", -11, suits.length());
        String s = "witness 0 1 sworn;witness 0 1 sworn;witness 0 1 sworn;";
        String t = "witness 1 1 sworn;witness 1 1 sworn;witness 1 1 sworn;";
        String six = "suit 1 1;suit 1 1;" + s + s;
        courtIs(six + "witness 0 1 sworn;", -14, six.length() + 8);
        courtIs(six + "witness 0 x", -14, six.length() + 8);
        courtIs(six + "witness 2 1 sworn;", -12, six.length() + 8);
        courtIs(six + t + t, 2, NONE);
        courtIs(six + t + t + "witness 0 1 sworn;", -13, six.length() + 108);
        courtIs(six + t + t + "  witness", -13, six.length() + 110);
    }

    private static void courtLeavesAndForgets() {
        HalvedProof x = Check.made("suit 9 9;witness 0 5 sworn;", "from 0 2 3 4;");
        x.say(0);
        x.strike(0, true);
        x.write(0, 7);
        x.seed(77);
        x.dusk(2);
        x.keep(1);
        due("3: FAULT", Check.court(x, "suit 1;"), -11);
        due("3: the old court stays", x.suit(0, 0), 9);
        due("3: its DAY", x.told(3), 2);
        due("3: its WEIGHT", x.weight(0, 0), 1);
        due("3: its STRIKE", x.witness(0, 6), 1);
        due("3: its BOOK", x.write(0, 7), 2);
        due("3: its IMAGE", x.goBack(1), 1);
        due("3: a new one", Check.court(x, "suit 8 8;witness 0 4 shown;"), 1);
        due("3: DAY 0", x.told(3), 0);
        due("3: nothing SAID", x.witness(0, 5), 0);
        due("3: nothing SAID", x.witness(0, 4), NONE);
        due("3: no WEIGHT", x.weight(0, NONE), 0);
        due("3: no STRIKE", x.witness(0, 6), 0);
        due("3: no BOOK", x.tear(0), 0);
        due("3: no IMAGE", x.goBack(1), NOT);
        due("3: LAWS stay", x.told(7), 3);
        due("3: THE SEED stays", x.seed(0), 77);
        due("3: an empty one", x.court(), 0);
        due("3: has no SUITS", x.suit(0, 0), UNKNOWN);
        due("3: has no WITNESSES", x.witness(0, 0), UNKNOWN);
    }

    // ---- 4

    private static void lawsAre(String text, int want, int place) {
        HalvedProof x = new HalvedProof();
        due("4: laws '" + text + "'", Check.laws(x, text), want);
        due("4: fault of '" + text + "'", x.fault(), place);
        due("4: text is empty", x.told(4), 0);
        due("4: as many clauses", x.told(2), Math.max(0, want));
    }

    private static void laws() {
        lawsAre("", 0, NONE);
        lawsAre("   ", 0, NONE);
        lawsAre("from 0 0 1 1;", 1, NONE);
        lawsAre("from399 6 60 6 ; ", 1, NONE);
        lawsAre("from 0 1 1 1;from 1 1 1 1;from 2 1 1 1;from 3 1 1 1;from 4 1 1 1;from 5 1 1 1;", 6, NONE);
        HalvedProof x = Check.made("suit 9 9;witness 0 5 copied;", "from 2 4 5 6;from 3 0 60 1;");
        due("4: C ahead of all", x.told(6), 1);
        x.say(0);
        x.dusk(2);
        due("4: C on day 2", x.told(6), 4);
        due("4: M on day 2", x.told(7), 5);
        due("4: T on day 2", x.told(8), 6);
        due("4: a copy", x.witness(0, 3), 60 / 3);
        due("4: a FAULT", Check.laws(x, "from 2 1 1 1"), -11);
        due("4: they are as they were", x.told(6), 4);
        due("4: still two", x.told(2), 2);
        x.dusk(1);
        due("4: C on day 3", x.told(6), 0);
        due("4: M on day 3", x.told(7), 60);
        due("4: T on day 3", x.told(8), 1);
        due("4: a copy of nothing", x.witness(0, 3), 0);
        due("4: none any more", x.laws(), 0);
        due("4: M as ahead of all", x.told(7), 28);
        due("4: what was SAID stays", x.witness(0, 5), 1);
        due("4: the SUITS stay", x.told(0), 1);
        String blanks = " ".repeat(200);
        due("4: 200 bytes", Check.laws(x, blanks.substring(13) + "from 1 2 3 4;"), 1);
        Check.feed(x, blanks + ";");
        due("4: 201 bytes", x.laws(), NOT);
        due("4: THE TEXT stays", x.told(4), 201);
        due("4: LAWS stay", x.told(2), 1);
        due("4: as no FAULT", x.fault(), NONE);
        due("4: a court may have them", x.court(), -11);
        due("4: and its FAULT", x.fault(), 200);
    }

    private static void lawsFaults() {
        lawsAre("suit 1 1;", -11, 0);
        lawsAre("fro 1 1 1 1;", -11, 0);
        lawsAre("from", -11, 4);
        lawsAre("from 1 1 1;", -11, 10);
        lawsAre("from 1 1 1 1 1;", -11, 13);
        lawsAre("from 1 1 1 1", -11, 12);
        lawsAre("from 400 1 1 1;", -12, 5);
        lawsAre("from 0000 1 1 1;", -12, 5);
        lawsAre("from 0 7 1 1;", -12, 7);
        lawsAre("from 0 0 0 1;", -12, 9);
        lawsAre("from 0 0 61 1;", -12, 9);
        lawsAre("from 0 0 1 0;", -12, 11);
        lawsAre("from 0 0 1 7;", -12, 11);
        lawsAre("from 1 0 1 1;from 1 0 1 1;", -14, 18);
        lawsAre("from 9 0 1 1;from 8 9 9 9;", -14, 18);
        lawsAre("from 1 0 1 1;from 1", -14, 18);
        lawsAre("from 399 0 1 1;from 400 0 1 1;", -12, 20);
        String six = "from 0 1 1 1;from 1 1 1 1;from 2 1 1 1;from 3 1 1 1;from 4 1 1 1;from 5 1 1 1;";
        lawsAre(six + "from 5 1 1 1;", -13, six.length());
        lawsAre(six + " from", -13, six.length() + 1);
        lawsAre(six + "form", -11, six.length());
    }

    // ---- 5

    private static void fault() {
        HalvedProof x = new HalvedProof();
        Check.court(x, "suit 1 1;suit 1 0;");
        due("5: of a court", x.fault(), 16);
        Check.feed(x, "from 1");
        due("5: still", x.fault(), 16);
        x.laws();
        due("5: of laws", x.fault(), 6);
        Check.court(x, "suit 1 1;");
        due("5: none", x.fault(), NONE);
        Check.laws(x, ";");
        due("5: at the first", x.fault(), 0);
        x.laws();
        due("5: none", x.fault(), NONE);
    }

    // ---- 6

    private static void told() {
        HalvedProof x = Check.made("suit 50 9;suit 9 9;witness 0 5 sworn;witness 1 1 sworn;witness 0 1 sworn;",
                "from 1 2 3 4;from 2 5 6 3;");
        Check.feed(x, "abc");
        x.say(1);
        x.dusk(1);
        x.say(0);
        x.say(2);
        int[] want = {2, 3, 2, 1, 3, 2, 2, 3, 4};
        for (int i = 0; i < want.length; i++) {
            due("6: told " + i, x.told(i), want[i]);
        }
        due("6: below", x.told(-1), OUTSIDE);
        due("6: above", x.told(9), OUTSIDE);
        due("6: least", x.told(Integer.MIN_VALUE), OUTSIDE);
        x.dusk(1);
        due("6: nobody spoke yet", x.told(5), 0);
        due("6: C of the second clause", x.told(6), 5);
    }

    // ---- 7

    private static void suit() {
        HalvedProof x = Check.made("suit 50 2;suit 9 3 on 0;witness 1 5 sworn;witness 0 50 sworn;witness 1 1 sworn;", "");
        int[][] want = {{50, 2, NONE, 0, NONE, 2}, {9, 3, 0, 0, NONE, 5}};
        for (int s = 0; s < 2; s++) {
            for (int i = 0; i < 6; i++) {
                due("7: suit " + s + ", " + i, x.suit(s, i), want[s][i]);
            }
        }
        due("7: no such", x.suit(2, 0), UNKNOWN);
        due("7: no such", x.suit(-1, 9), UNKNOWN);
        due("7: below", x.suit(0, -1), OUTSIDE);
        due("7: above", x.suit(1, 6), OUTSIDE);
        x.dusk(1);
        x.say(1);
        due("7: WON", x.suit(0, 3), 1);
        due("7: on day 1", x.suit(0, 4), 1);
        x.dusk(2);
        due("7: goes on", x.suit(1, 3), 0);
        x.dusk(1);
        due("7: FELL", x.suit(1, 3), 2);
        due("7: on day 3", x.suit(1, 4), 3);
        due("7: stays WON", x.suit(0, 3), 1);
    }

    // ---- 8

    private static void witness() {
        HalvedProof x = Check.made("suit 900 90;suit 9 9;witness 0 7 sworn;witness 0 8 copied;witness 0 9 shown;witness 1 1 against;",
                "from 0 5 2 6;from 3 6 2 6;");
        int[][] want = {{0, 7, 0, 21}, {0, 8, 1, 40}, {0, 9, 2, 27}, {1, 1, 3, 6}};
        for (int w = 0; w < 4; w++) {
            for (int i = 0; i < 4; i++) {
                due("8: witness " + w + ", " + i, x.witness(w, i), want[w][i]);
            }
            due("8: never spoke", x.witness(w, 4), NONE);
            due("8: not once", x.witness(w, 5), 0);
            due("8: not STRUCK", x.witness(w, 6), 0);
            due("8: may", x.witness(w, 7), 1);
        }
        due("8: no such", x.witness(4, 0), UNKNOWN);
        due("8: no such", x.witness(-1, 8), UNKNOWN);
        due("8: below", x.witness(0, -1), OUTSIDE);
        due("8: above", x.witness(0, 8), OUTSIDE);
        x.dusk(1);
        x.say(0);
        x.dusk(2);
        due("8: spoke on day 1", x.witness(0, 4), 1);
        due("8: a copy of day 3", x.witness(1, 3), 48);
        x.say(0);
        due("8: spoke on day 3", x.witness(0, 4), 3);
        due("8: twice", x.witness(0, 5), 2);
    }

    private static void witnessMaySpeak() {
        HalvedProof x = Check.made("suit 900 30;suit 1 9;witness 0 1 sworn;witness 0 1 shown;witness 0 1 sworn;witness 1 1 sworn;",
                "from 0 1 5 2;from 10 1 7 2;");
        x.say(0);
        due("8: not twice a day", x.witness(0, 7), 0);
        due("8: one more by T", x.witness(2, 7), 1);
        x.say(1);
        due("8: none more by T", x.witness(2, 7), 0);
        due("8: nor of another SUIT", x.witness(3, 7), 0);
        x.dusk(4);
        due("8: day 4 is in the moon", x.witness(0, 7), 0);
        x.dusk(1);
        due("8: day 5 is not", x.witness(0, 7), 1);
        due("8: shown once for ever", x.witness(1, 7), 0);
        x.say(0);
        x.dusk(5);
        due("8: day 10 has a longer moon", x.witness(0, 7), 0);
        x.dusk(1);
        due("8: day 11", x.witness(0, 7), 0);
        due("8: a SUIT that FELL", x.witness(3, 7), 0);
        x.dusk(1);
        due("8: day 12", x.witness(0, 7), 1);
        x.strike(0, true);
        due("8: STRUCK", x.witness(0, 7), 0);
        x.strike(0, false);
        due("8: not any more", x.witness(0, 7), 1);
        x.dusk(300);
        due("8: its SUIT FELL", x.witness(2, 7), 0);
    }

    // ---- 9

    private static void weight() {
        HalvedProof x = Check.made("suit 999 399;suit 999 399;witness 0 1 sworn;witness 0 3 sworn;witness 1 99 against;",
                "from 0 1 60 6;");
        due("9: nothing", x.weight(0, NONE), 0);
        due("9: nothing behind the point", x.weight(0, 0), 0);
        x.say(0);
        due("9: 3", x.weight(0, NONE), 3);
        x.dusk(1);
        due("9: 1.5", x.weight(0, NONE), 1);
        due("9: 1.5", x.weight(0, 0), 1);
        due("9: 1.50", x.weight(0, 1), 0);
        x.say(1);
        due("9: 10.5", x.weight(0, NONE), 10);
        due("9: 10.5", x.weight(0, 0), 1);
        x.dusk(2);
        // 10.5 / 4 = 2.625 = 10.101
        due("9: 2.625", x.weight(0, NONE), 2);
        due("9: halves", x.weight(0, 0), 1);
        due("9: fourths", x.weight(0, 1), 0);
        due("9: eighths", x.weight(0, 2), 1);
        due("9: sixteenths", x.weight(0, 3), 0);
        due("9: the other SUIT", x.weight(1, NONE), 0);
        due("9: below", x.weight(0, -2), OUTSIDE);
        due("9: above", x.weight(0, 400), OUTSIDE);
        due("9: no such, ahead of OUTSIDE", x.weight(2, 400), UNKNOWN);
        x.dusk(396);
        due("9: day 399", x.told(3), 399);
        // 3 of day 0 and 9 of day 1: 3 + 18 = 21 = 10101, 399 places behind the point
        for (int i = 380; i < 400; i++) {
            due("9: figure " + i, x.weight(0, i), i == 398 || i == 396 || i == 394 ? 1 : 0);
        }
    }

    // ---- 10

    private static void say() {
        HalvedProof x = Check.made("suit 20 9;witness 0 1 sworn;witness 0 2 copied;witness 0 3 shown;witness 0 4 against;witness 0 9 sworn;",
                "from 0 4 1 4;");
        due("10: sworn", x.say(0), 0);
        due("10: 3", x.weight(0, NONE), 3);
        due("10: copied", x.say(1), 0);
        due("10: 8 more", x.weight(0, NONE), 11);
        due("10: shown", x.say(2), 0);
        due("10: 9 more", x.weight(0, NONE), 20);
        due("10: again", x.say(2), NOT);
        due("10: against", x.say(3), 0);
        due("10: 24 more", x.weight(0, NONE), 44);
        due("10: a fifth", x.say(4), NOT);
        due("10: four spoke", x.told(5), 4);
        due("10: nothing changed", x.weight(0, NONE), 44);
        due("10: no such", x.say(5), UNKNOWN);
        due("10: no such", x.say(-1), UNKNOWN);
        x.dusk(1);
        x.strike(4, true);
        due("10: STRUCK", x.say(4), NOT);
        due("10: shown again", x.say(2), NOT);
        due("10: sworn again", x.say(0), 0);
        due("10: 22 and 3", x.weight(0, NONE), 25);
    }

    private static void sayWins() {
        HalvedProof x = Check.made("suit 5 20;suit 5 20 on 0;suit 4 20 on 1;witness 0 4 sworn;witness 0 1 sworn;"
                + "witness 1 5 sworn;witness 2 9 sworn;witness 2 9 sworn;witness 1 1 sworn;", "from 0 1 1 6;");
        due("10: enough, but hangs", x.say(3), 0);
        due("10: just enough, but hangs", x.say(2), 0);
        due("10: 12 of 15", x.say(0), 0);
        due("10: 15 of 15", x.say(1), 1);
        due("10: WON today", x.suit(0, 4), 0);
        due("10: no other is looked at", x.suit(1, 3), 0);
        due("10: WON speaks no more", x.say(0), NOT);
        due("10: what it HANGS on is not WON", x.say(4), 0);
        due("10: what it HANGS on IS WON", x.say(5), 1);
        due("10: till dusk", x.suit(2, 3), 0);
        x.dusk(1);
        due("10: WON at dusk", x.suit(2, 3), 1);
        due("10: on day 0", x.suit(2, 4), 0);
    }

    // ---- 11

    private static void strike() {
        HalvedProof x = Check.made("suit 1 1;witness 0 1 sworn;witness 0 1 sworn;", "");
        due("11: it was not", x.strike(1, true), 0);
        due("11: it was", x.strike(1, true), 1);
        due("11: is", x.witness(1, 6), 1);
        due("11: the other is not", x.witness(0, 6), 0);
        due("11: it was", x.strike(1, false), 1);
        due("11: it was not", x.strike(1, false), 0);
        due("11: is not", x.witness(1, 6), 0);
        due("11: no such", x.strike(2, true), UNKNOWN);
        due("11: no such", x.strike(-1, false), UNKNOWN);
        x.dusk(5);
        due("11: of a SUIT that FELL", x.strike(0, true), 0);
    }

    // ---- 12

    private static void dusk() {
        HalvedProof x = Check.made("suit 9 9;witness 0 1 sworn;", "");
        due("12: none", x.dusk(0), OUTSIDE);
        due("12: too many", x.dusk(401), OUTSIDE);
        due("12: less", x.dusk(Integer.MIN_VALUE), OUTSIDE);
        due("12: one", x.dusk(1), 1);
        due("12: more", x.dusk(390), 391);
        x.dusk(7);
        due("12: day 398", x.told(3), 398);
        due("12: at the most", x.dusk(2), 399);
        due("12: at the most", x.dusk(400), 399);
        x.begin();
        due("12: all at once", x.dusk(400), 399);
        x = Check.made("suit 100 399;witness 0 4 sworn;", "");
        x.dusk(399);
        x.say(0);
        x.dusk(1);
        due("12: not halved on day 399", x.weight(0, NONE), 12);
        due("12: not over", x.suit(0, 3), 0);
        due("12: who spoke stays", x.told(5), 1);
    }

    private static void duskEnds() {
        HalvedProof x = Check.made("suit 9 1;suit 3 2 on 0;suit 2 2;suit 3 2 on 2;witness 0 1 sworn;witness 1 9 sworn;"
                + "witness 3 12 sworn;witness 2 2 sworn;", "from 0 1 1 6;");
        x.say(1);
        x.say(2);
        x.dusk(2);
        due("12: the first FELL", x.suit(0, 3), 2);
        due("12: on day 1", x.suit(0, 4), 1);
        due("12: what HANGS on it goes on", x.suit(1, 3), 0);
        due("12: the third IS WON on its last day", x.say(3), 1);
        due("12: 9 of 9 is enough", x.weight(3, NONE), 9);
        due("12: the fourth is not looked at yet", x.suit(3, 3), 0);
        x.dusk(1);
        due("12: WON ahead of FALLS", x.suit(3, 3), 1);
        due("12: on day 2", x.suit(3, 4), 2);
        due("12: what HANGS on one that FELL, FELL", x.suit(1, 3), 2);
        due("12: on day 2", x.suit(1, 4), 2);
        due("12: halved on", x.weight(3, NONE), 4);
        due("12: FELL is halved on", x.weight(1, NONE), 3);
        x = Check.made("suit 5 3;suit 5 3 on 0;suit 5 3 on 1;witness 2 40 sworn;witness 1 40 sworn;witness 0 40 sworn;", "from 0 1 1 6;");
        x.say(0);
        x.say(1);
        x.say(2);
        x.dusk(1);
        due("12: a chain is WON at one dusk", x.suit(1, 3), 1);
        due("12: to its end", x.suit(2, 3), 1);
    }

    // ---- 13

    private static void drift() {
        // from THE SEED 5 the DRAWS of 100 are 55 57 16 77 93 64 4 67 72 60 37 64
        HalvedProof x = Check.made("suit 900 90;witness 0 10 sworn;witness 0 20 sworn;", "from 0 1 1 6;");
        x.seed(5);
        due("13: 55, 57 are not below 55", x.drift(1, 55), 0);
        due("13: 16 is, 77 is not", x.drift(1, 17), 1);
        due("13: day 2", x.told(3), 2);
        due("13: who", x.witness(0, 4), 1);
        due("13: 93, 64, 4, 67", x.drift(2, 65), 2);
        due("13: 64 was", x.witness(1, 4), 2);
        due("13: 4 was", x.witness(0, 4), 3);
        due("13: THE SEED", x.seed(5), 1551051453);
        x.strike(0, true);
        due("13: a DRAW for all", x.drift(1, 57), 0);
        due("13: but the STRUCK", x.drift(1, 78), 1);
        x.begin();
        due("13: none with 0", x.drift(60, 0), 0);
        due("13: day 60", x.told(3), 60);
        due("13: all with 100", x.drift(60, 100), 62);
        due("13: day 120, FELL on 90", x.told(3), 120);
        due("13: no days", x.drift(0, 5), OUTSIDE);
        due("13: too many", x.drift(61, 5), OUTSIDE);
        due("13: q below", x.drift(1, -1), OUTSIDE);
        due("13: q above", x.drift(1, 101), OUTSIDE);
        x.dusk(277);
        x.seed(5);
        due("13: to day 399", x.drift(60, 50), 0);
        due("13: day 399", x.told(3), 399);
        due("13: two days were drawn", x.seed(0), 2089129857);
        due("13: no day more", x.drift(1, 100), 0);
        due("13: nothing drawn", x.seed(2147483647), 0);
        x.begin();
        x.drift(1, 0);
        long first = (2147483647L * 1103515245L + 12345L) % 2147483648L;
        due("13: of the greatest SEED", x.seed(0), (int) ((first * 1103515245L + 12345L) % 2147483648L));
        x = Check.made("suit 900 90;witness 0 1 sworn;witness 0 1 sworn;witness 0 1 sworn;", "");
        due("13: T and the moon", x.drift(2, 100), 3);
    }

    // ---- 14

    private static void begin() {
        HalvedProof x = Check.made("suit 5 3;suit 9 2;witness 0 5 shown;witness 1 1 sworn;", "from 0 1 9 1;");
        x.seed(9);
        x.write(0, 15);
        x.say(0);
        x.keep(0);
        x.dusk(5);
        x.strike(1, true);
        due("14: the DAY it was", x.begin(), 5);
        due("14: DAY 0", x.told(3), 0);
        due("14: goes on", x.suit(0, 3), 0);
        due("14: goes on", x.suit(1, 3), 0);
        due("14: no end", x.suit(1, 4), NONE);
        due("14: nothing SAID", x.witness(0, 5), 0);
        due("14: no WEIGHT", x.weight(0, NONE), 0);
        due("14: nothing behind the point", x.weight(0, 0), 0);
        due("14: no STRIKE", x.witness(1, 6), 0);
        due("14: no evening", x.evening(0, 0), NONE);
        due("14: shown may again", x.say(0), 1);
        due("14: LAWS stay", x.told(7), 9);
        due("14: BOOKS stay", x.write(0, 7), 2);
        due("14: THE SEED stays", x.seed(0), 9);
        due("14: IMAGES stay", x.goBack(0), 1);
        due("14: again", x.begin(), 0);
        due("14: nobody spoke today", x.told(5), 0);
    }

    // ---- 15

    private static void most() {
        HalvedProof x = Check.made("suit 30 9;suit 99 9;witness 0 10 sworn;witness 0 5 sworn;witness 0 3 sworn;witness 1 99 against;",
                "from 0 1 3 1;");
        due("15: today one", x.most(0, 0), 30);
        due("15: 30 and half of 15", x.most(0, 1), 37);
        due("15: and a fourth of 9", x.most(0, 2), 39);
        due("15: no more", x.most(0, 30), 39);
        due("15: below", x.most(0, -1), OUTSIDE);
        due("15: above", x.most(0, 31), OUTSIDE);
        due("15: no such, ahead of OUTSIDE", x.most(2, 31), UNKNOWN);
        x.say(2);
        due("15: T is used up", x.most(0, 0), 9);
        due("15: 30 and 4.5", x.most(0, 1), 34);
        due("15: 30, 7.5 and 2.25", x.most(0, 2), 39);
        due("15: 9 would have to wait till day 3: 30, 7.5, 1.125", x.most(0, 3), 38);
        due("15: other SUITS wait, too", x.most(1, 0), 0);
        x.dusk(1);
        due("15: a free day", x.most(0, 0), 34);
        x.strike(0, true);
        due("15: without the STRUCK", x.most(0, 0), 19);
        x.strike(0, false);
        x.dusk(8);
        due("15: on its last day", x.most(0, 30), 39);
        x.dusk(1);
        due("15: FELL", x.most(0, 0), NOT);
        due("15: OUTSIDE is ahead of NOT", x.most(0, 31), OUTSIDE);
        x = Check.made("suit 9 399;witness 0 1 sworn;witness 0 2 sworn;", "from 0 1 1 1;");
        x.dusk(397);
        due("15: day 399", x.most(0, 2), 7);
        due("15: beyond", x.most(0, 3), NOT);
        due("15: far beyond", x.most(0, 30), NOT);
        x = Check.made("suit 1 9;witness 0 1 sworn;", "");
        x.say(0);
        due("15: WON", x.most(0, 0), NOT);
    }

    private static void mostByLaws() {
        HalvedProof x = Check.made("suit 99 99;witness 0 10 copied;witness 0 10 sworn;", "from 0 6 1 2;from 2 1 1 2;from 3 0 1 2;");
        due("15: C 6 today", x.most(0, 0), 90);
        due("15: C 6 tomorrow", x.most(0, 1), 90);
        due("15: half of C 6", x.most(0, 2), 60);
        due("15: a fourth of C 6", x.most(0, 3), 45);
        x = Check.made("suit 99 99;witness 0 10 shown;witness 0 4 sworn;", "from 0 1 2 2;from 1 1 4 2;");
        x.say(0);
        x.say(1);
        due("15: both spoke", x.most(0, 0), 42);
        due("15: the moon of day 3 is four days", x.most(0, 3), 5);
        due("15: day 4", x.most(0, 4), 14);
        x = Check.made("suit 999 399;witness 0 99 against;witness 0 99 against;witness 0 99 against;witness 0 99 against;"
                + "witness 0 99 against;witness 0 99 against;", "from 0 1 60 6;");
        due("15: the greatest", x.most(0, 30), 3564);
    }

    // ---- 16

    private static void soonest() {
        HalvedProof x = Check.made("suit 13 9;suit 5 1 on 0;suit 9 9;witness 0 10 sworn;witness 0 5 sworn;witness 0 3 sworn;"
                + "witness 1 4 sworn;witness 1 2 sworn;witness 2 1 sworn;", "from 0 1 3 1;");
        due("16: 30, 7.5, 2.25", x.soonest(0), 2);
        due("16: 12, 3", x.soonest(1), 1);
        due("16: never", x.soonest(2), NONE);
        due("16: no such", x.soonest(3), UNKNOWN);
        due("16: no such", x.soonest(-1), UNKNOWN);
        x.say(3);
        due("16: what it HANGS on is not looked at", x.soonest(1), 3);
        x.dusk(1);
        due("16: FALLS is not looked at", x.soonest(1), 2);
        x.dusk(1);
        due("16: FELL", x.soonest(1), NONE);
        x = Check.made("suit 5 399;witness 0 4 sworn;witness 0 2 sworn;", "from 0 1 3 1;");
        x.dusk(398);
        due("16: on day 399", x.soonest(0), 1);
        x.dusk(1);
        due("16: beyond", x.soonest(0), NONE);
        x = Check.made("suit 5 60;suit 4 60 on 0;witness 0 1 sworn;witness 1 4 sworn;witness 0 6 sworn;", "from 0 1 31 6;");
        x.say(1);
        due("16: without anybody", x.soonest(1), 0);
        x.say(0);
        x.say(2);
        due("16: WON", x.soonest(0), NONE);
        x = Check.made("suit 3 90;witness 0 2 sworn;witness 0 2 sworn;", "from 0 1 30 1;");
        due("16: tomorrow", x.soonest(0), 1);
        x.say(0);
        due("16: in thirty days: 6 and half of 6", x.soonest(0), 1);
        x.dusk(1);
        x.strike(1, true);
        due("16: one alone is too little", x.soonest(0), NONE);
        x = Check.made("suit 3 90;witness 0 3 sworn;witness 0 1 sworn;", "from 0 1 30 1;from 1 1 31 1;");
        x.strike(0, true);
        x.say(1);
        due("16: struck", x.soonest(0), NONE);
        x = Check.made("suit 900 90;suit 3 90 on 0;witness 1 3 sworn;", "from 0 1 30 1;");
        x.say(0);
        x.dusk(1);
        due("16: in 29 days", x.soonest(1), 29);
        Check.laws(x, "from 0 1 31 1;");
        due("16: in 30 days", x.soonest(1), 30);
        Check.laws(x, "from 0 1 32 1;");
        due("16: not in 31", x.soonest(1), NONE);
    }

    // ---- 17

    private static void planIs(HalvedProof x, String what, int... want) {
        for (int w = 0; w < want.length; w++) {
            due("17: " + what + ", witness " + w, x.plan(w), want[w]);
        }
    }

    private static void plan() {
        HalvedProof x = Check.made("suit 13 9;suit 90 9;witness 0 5 sworn;witness 0 10 sworn;witness 0 3 sworn;witness 1 9 sworn;", "from 0 1 3 1;");
        planIs(x, "three days", 1, 2, 0, NONE);
        due("17: no such", x.plan(4), UNKNOWN);
        due("17: no such", x.plan(-1), UNKNOWN);
        x.strike(0, true);
        planIs(x, "no SOONEST", NONE, NONE, NONE, NONE);
        x.strike(0, false);
        x.dusk(8);
        planIs(x, "L is not looked at", 1, 2, 0);
        x.dusk(2);
        planIs(x, "FELL", NONE, NONE, NONE);
        x = Check.made("suit 9 9;suit 4 9 on 0;witness 1 5 sworn;witness 1 5 sworn;", "");
        x.say(0);
        planIs(x, "nobody need speak", NONE, NONE);
    }

    private static void planTies() {
        HalvedProof x = Check.made("suit 4 9;witness 0 3 sworn;witness 0 2 sworn;witness 0 1 sworn;witness 0 4 sworn;", "");
        planIs(x, "the fewest speakers", NONE, NONE, NONE, 0);
        x.strike(3, true);
        planIs(x, "the least SET", 0, 0, NONE, NONE);
        x.strike(1, true);
        planIs(x, "just enough", 0, NONE, 0, NONE);
        x = Check.made("suit 4 9;witness 0 2 sworn;witness 0 2 sworn;witness 0 2 sworn;", "");
        planIs(x, "the least SET", 0, 0, NONE);
        // 6 of today counts 3 tomorrow: 9 in all
        x = Check.made("suit 3 9;witness 0 2 sworn;witness 0 2 sworn;", "from 0 1 9 1;");
        planIs(x, "the later day for the first", 1, 0);
        // a copy must speak ahead of day 1, or counts nothing
        x = Check.made("suit 9 9;witness 0 2 copied;witness 0 7 sworn;", "from 0 6 9 1;from 1 0 9 6;");
        planIs(x, "12 halved, and 21", 0, 1);
        x = Check.made("suit 9 9;witness 0 9 sworn;witness 0 6 sworn;witness 0 1 sworn;", "from 0 1 9 1;from 1 1 9 6;");
        planIs(x, "at once", 0, NONE, NONE);
        // by day 1, with T 1 today, one of them must be early: the first may be late if another is not
        x = Check.made("suit 13 9;witness 0 6 sworn;witness 0 6 sworn;witness 0 4 sworn;", "from 0 1 9 1;from 1 1 9 2;");
        planIs(x, "18, 18 and half of 12", 1, 1, 0);
        x = Check.made("suit 13 9;witness 0 6 sworn;witness 0 4 sworn;witness 0 6 sworn;", "from 0 1 9 1;from 1 1 9 2;");
        planIs(x, "18, 12 and half of 18", 1, 1, 0);
        x = Check.made("suit 14 9;witness 0 6 sworn;witness 0 4 sworn;witness 0 6 sworn;", "from 0 1 9 1;from 1 1 9 2;");
        planIs(x, "18, 18 and half of 12", 1, 0, 1);
        // 5.25 now: 9 and 12 with the 9 later are 35.25 / 2, less than 18; with the 12 later they are enough
        x = Check.made("suit 6 9;witness 0 3 sworn;witness 0 4 sworn;witness 0 1 sworn;witness 0 3 sworn;", "from 0 1 60 1;");
        x.say(2);
        x.dusk(1);
        x.say(3);
        x.dusk(1);
        planIs(x, "the later day is too little by a fraction", 0, 1, NONE, NONE);
    }

    // ---- 18

    private static void cut() {
        HalvedProof x = Check.made("suit 4 9;suit 90 9;suit 3 9 on 1;witness 0 4 sworn;witness 0 2 sworn;witness 0 2 sworn;"
                + "witness 1 9 sworn;witness 2 3 sworn;witness 2 3 sworn;", "");
        due("18: 4 alone, and one of 2 and 2", x.cut(0), 3);
        x.strike(0, true);
        due("18: one of two", x.cut(0), 2);
        x.strike(1, true);
        due("18: none need be", x.cut(0), 0);
        due("18: never anyway", x.cut(1), 0);
        due("18: both", x.cut(2), 48);
        due("18: no such", x.cut(3), UNKNOWN);
        due("18: no such", x.cut(-1), UNKNOWN);
        x.say(4);
        due("18: on day 0 without anybody", x.cut(2), NONE);
        x.dusk(1);
        due("18: who spoke may again in a moon", x.cut(2), 48);
        Check.laws(x, "from 0 1 60 2;");
        due("18: not within thirty days", x.cut(2), 32);
        x.dusk(9);
        due("18: FELL", x.cut(0), NOT);
        x = Check.made("suit 90 399;suit 3 399 on 0;witness 1 3 sworn;", "from 0 1 31 6;");
        x.say(0);
        x.dusk(1);
        due("18: it would be in thirty days", x.cut(1), 1);
        x.begin();
        x.dusk(399);
        due("18: on day 399", x.cut(1), 1);
        x = Check.made("suit 4 9;witness 0 4 sworn;", "");
        x.say(0);
        due("18: WON", x.cut(0), NOT);
        // each of three days has one: 12 and half of 12 is enough, 12 and a fourth of 12 is, too
        x = Check.made("suit 5 9;witness 0 4 sworn;witness 0 4 sworn;witness 0 4 sworn;", "from 0 1 9 1;");
        due("18: two of three", x.cut(0), 3);
    }

    // ---- 19

    private static void turns() {
        HalvedProof x = Check.made("suit 4 9;suit 5 9;suit 9 9;witness 0 1 sworn;witness 0 4 sworn;witness 1 4 sworn;witness 1 4 sworn;"
                + "witness 1 4 sworn;witness 1 1 sworn;", "from 0 1 9 1;");
        due("19: at once", x.turns(0, 0), 1);
        due("19: by the second", x.turns(0, 1), 1);
        due("19: 12, then half of it and 12", x.turns(1, 0), 1);
        due("19: by the first", x.turns(1, 1), 2);
        due("19: nobody", x.turns(2, 0), 0);
        due("19: no call", x.turns(2, 1), NONE);
        due("19: no such", x.turns(3, 2), UNKNOWN);
        due("19: below", x.turns(0, -1), OUTSIDE);
        due("19: above", x.turns(0, 2), OUTSIDE);
        x.strike(2, true);
        due("19: two of 4 left, one is struck", x.turns(1, 0), 0);
        due("19: no call", x.turns(1, 1), NONE);
        x.strike(2, false);
        x.strike(5, true);
        due("19: three of 4", x.turns(1, 0), 1);
        x.say(0);
        due("19: T is not looked at", x.turns(0, 1), 1);
        x.strike(1, true);
        due("19: who spoke may not", x.turns(0, 0), 0);
        x.dusk(9);
        due("19: still goes on", x.turns(0, 0), 0);
        x.dusk(1);
        due("19: FELL", x.turns(0, 0), NOT);
        due("19: OUTSIDE is ahead of NOT", x.turns(0, 5), OUTSIDE);
        turnsWithWeight();
    }

    private static void turnsWithWeight() {
        HalvedProof x = Check.made("suit 90 9;suit 4 9 on 0;witness 1 5 sworn;witness 1 1 sworn;", "from 0 1 9 2;");
        x.say(0);
        due("19: now, too", x.turns(1, 0), 1);
        due("19: anyone is the best", x.turns(1, 1), 1);
        x.say(1);
        due("19: now, without anybody", x.turns(1, 0), 1);
        due("19: nobody to call", x.turns(1, 1), NONE);
        // 3 weighs 1.5 tomorrow; 12 and 1.5 and 12 / 2 make 13.5: the halves never reach 15
        x = Check.made("suit 5 9;witness 0 1 sworn;witness 0 4 sworn;", "from 0 1 9 2;");
        x.say(0);
        due("19: 3 and 12", x.turns(0, 0), 1);
        due("19: by the second", x.turns(0, 1), 1);
        x.dusk(1);
        due("19: 1.5 and 12", x.turns(0, 0), 0);
        x = Check.made("suit 90 9;suit 5 9 on 0;witness 1 5 sworn;", "");
        x.say(0);
        due("19: just enough now", x.turns(1, 0), 1);
        due("19: nobody to call", x.turns(1, 1), NONE);
        // a copy counts as today on all days
        x = Check.made("suit 5 9;witness 0 4 copied;witness 0 4 copied;witness 0 4 copied;", "from 0 3 9 2;from 1 0 9 2;");
        due("19: LAWS of later days are not looked at", x.turns(0, 0), 1);
    }

    // ---- 20

    private static void many() {
        HalvedProof x = Check.made("suit 3 9;suit 3 9;suit 3 9;suit 90 9;witness 0 2 sworn;witness 0 1 sworn;witness 1 3 sworn;"
                + "witness 2 1 sworn;witness 2 3 sworn;witness 3 9 sworn;", "from 0 1 9 3;from 1 1 9 2;from 2 1 9 1;from 3 1 9 4;");
        due("20: 2 and 1 speakers", x.many(0), 2);
        due("20: the least SET", x.many(1), 3);
        due("20: below", x.many(-1), OUTSIDE);
        due("20: above", x.many(2), OUTSIDE);
        x.dusk(1);
        due("20: of two places", x.many(0), 1);
        due("20: the least", x.many(1), 1);
        x.dusk(1);
        due("20: of one place", x.many(1), 2);
        x.strike(2, true);
        due("20: by rising numbers: 1 is ahead of 3", x.many(0), 0);
        due("20: nobody", x.many(1), 0);
        x.strike(3, true);
        due("20: then 3 alone", x.many(1), 4);
        x.say(4);
        due("20: WON is not taken, T is used up", x.many(1), 0);
        x.dusk(1);
        due("20: the first again", x.many(1), 1);
        x = Check.made("suit 90 9;suit 3 9 on 0;suit 2 9;witness 1 3 sworn;witness 2 2 sworn;", "from 0 1 9 1;");
        x.say(0);
        due("20: one that has enough needs nobody", x.many(0), 1);
        due("20: though it HANGS", x.many(1), 2);
        x.dusk(1);
        due("20: half is not enough", x.many(1), 4);
        x.dusk(9);
        due("20: all FELL", x.many(0), 0);
    }

    // ---- 21 to 24

    private static void write() {
        HalvedProof x = Check.made("suit 9 9;suit 9 9;", "");
        due("21: first", x.write(1, 0), 1);
        due("21: second", x.write(1, 99999), 2);
        due("21: the other", x.write(0, 5), 1);
        due("21: below", x.write(0, -1), OUTSIDE);
        due("21: above", x.write(0, 100000), OUTSIDE);
        due("21: no such, ahead of OUTSIDE", x.write(2, -1), UNKNOWN);
        due("21: no such", x.write(-1, 0), UNKNOWN);
        for (int i = 2; i <= 60; i++) {
            due("21: " + i, x.write(0, 0), i);
        }
        due("21: full", x.write(0, 0), FULL);
        due("21: OUTSIDE is ahead of FULL", x.write(0, -1), OUTSIDE);
        due("21: the other is not", x.write(1, 1), 3);
    }

    private static void tear() {
        HalvedProof x = Check.made("suit 9 9;suit 9 9;", "");
        x.write(0, 1);
        x.write(0, 1);
        x.write(1, 1);
        due("22: two", x.tear(0), 2);
        due("22: none", x.tear(0), 0);
        due("22: the other stays", x.tear(1), 1);
        due("22: anew", x.write(0, 3), 1);
        due("22: no such", x.tear(2), UNKNOWN);
        due("22: no such", x.tear(-1), UNKNOWN);
    }

    private static void judge() {
        HalvedProof x = Check.made("suit 99 9;witness 0 5 sworn;", "");
        x.say(0);
        due("23: no book", x.judge(0), NONE);
        x.write(0, 15);
        x.write(0, 7);
        x.write(0, 4);
        x.write(0, 1);
        due("23: none is over", x.judge(0), NONE);
        x.dusk(2);
        due("23: two are over", x.judge(0), NONE);
        x.dusk(1);
        due("23: 15, 7, 3", x.judge(0), 2);
        x.begin();
        due("23: none is over again", x.judge(0), NONE);
        x.dusk(1);
        due("23: 0, not 15", x.judge(0), 0);
        due("23: no such", x.judge(1), UNKNOWN);
        due("23: no such", x.judge(-1), UNKNOWN);
        x.tear(0);
        due("23: torn", x.judge(0), NONE);
    }

    private static void evening() {
        HalvedProof x = Check.made("suit 99 9;suit 1 9;witness 0 5 sworn;witness 1 2 sworn;", "");
        x.say(0);
        due("24: not over", x.evening(0, 0), NONE);
        x.dusk(1);
        x.say(1);
        x.dusk(398);
        due("24: 15", x.evening(0, 0), 15);
        due("24: 7.5", x.evening(0, 1), 7);
        due("24: 0.9", x.evening(0, 4), 0);
        due("24: the other: 0", x.evening(1, 0), 0);
        due("24: the other: 6", x.evening(1, 1), 6);
        due("24: the other IS WON: 3", x.evening(1, 2), 3);
        due("24: day 398", x.evening(0, 398), 0);
        due("24: day 399", x.evening(0, 399), NONE);
        due("24: below", x.evening(0, -1), OUTSIDE);
        due("24: above", x.evening(0, 400), OUTSIDE);
        due("24: no such, ahead of OUTSIDE", x.evening(2, 400), UNKNOWN);
        due("24: no such", x.evening(-1, 0), UNKNOWN);
    }

    // ---- 25 to 27

    private static void seed() {
        HalvedProof x = new HalvedProof();
        due("25: 0 at first", x.seed(2147483647), 0);
        due("25: below", x.seed(-1), OUTSIDE);
        due("25: least", x.seed(Integer.MIN_VALUE), OUTSIDE);
        due("25: as it was", x.seed(0), 2147483647);
    }

    private static void keepAndGoBack() {
        HalvedProof x = Check.made("suit 5 9;suit 2 1;witness 0 3 sworn;witness 0 4 shown;witness 1 1 sworn;", "from 0 1 2 2;");
        due("26: no such", x.keep(2), UNKNOWN);
        due("26: no such", x.keep(-1), UNKNOWN);
        due("27: no such", x.goBack(2), UNKNOWN);
        due("27: no such", x.goBack(-1), UNKNOWN);
        due("27: not kept", x.goBack(0), NOT);
        x.seed(3);
        x.say(0);
        x.dusk(1);
        x.strike(2, true);
        x.say(1);
        due("26: kept", x.keep(1), 1);
        due("27: the other is not", x.goBack(0), NOT);
        x.dusk(1);
        due("26: FELL", x.suit(1, 3), 2);
        x.strike(2, false);
        x.write(0, 5);
        Check.laws(x, "from 0 1 5 4;");
        x.drift(9, 0);
        x.keep(0);
        due("27: back", x.goBack(1), 1);
        due("27: DAY", x.told(3), 1);
        due("27: spoken today", x.told(5), 1);
        due("27: WEIGHT", x.weight(0, NONE), 16);
        due("27: its halves", x.weight(0, 0), 1);
        due("27: WON", x.suit(0, 3), 1);
        due("27: on day 1", x.suit(0, 4), 1);
        due("27: goes on", x.suit(1, 3), 0);
        due("27: no end", x.suit(1, 4), NONE);
        due("27: STRUCK", x.witness(2, 6), 1);
        due("27: SAID", x.witness(1, 4), 1);
        due("27: once", x.witness(1, 5), 1);
        due("27: evening", x.evening(0, 0), 9);
        due("27: not over", x.evening(0, 1), NONE);
        due("27: THE SEED", x.seed(4), 3);
        due("27: BOOKS are as they are", x.tear(0), 1);
        due("27: LAWS are as they are", x.told(7), 5);
        x.begin();
        x.dusk(3);
        due("27: back again", x.goBack(1), 1);
        due("27: the IMAGE did not change", x.weight(0, NONE), 16);
        due("27: nor its SEED", x.seed(4), 3);
        due("27: the other", x.goBack(0), 1);
        due("27: its DAY", x.told(3), 11);
        due("27: its end", x.suit(1, 4), 1);
    }
}
