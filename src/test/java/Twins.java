/** Two objects that had the same calls but for one: whatever can be asked of them must be answered alike. */
final class Twins {
    static final String COURT = "suit 40 30;suit 9 30 on 0;suit 9 2;suit 2 9;witness 0 20 sworn;witness 0 15 against;"
            + "witness 1 3 copied;witness 1 4 shown;witness 2 1 sworn;witness 3 2 sworn;witness 0 3 sworn;";
    static final String LAWS = "from 0 2 5 3;from 20 1 9 2;";

    private Twins() {
    }

    /**
     * On DAY 4: SUIT 0 goes on with a WEIGHT that has figures behind the point, 1 goes on, 2 FELL, 3 IS WON. 4 is STRUCK,
     * 2 spoke today; there is a BOOK, IMAGE 0 (but no IMAGE 1), a SEED, a FAULT at 1 and a TEXT.
     */
    static HalvedProof made(String text) {
        HalvedProof x = Check.made(COURT, LAWS);
        x.seed(77);
        x.say(0);
        x.dusk(1);
        x.say(3);
        x.strike(6, true);
        x.keep(0);
        x.say(5);
        x.strike(4, true);
        x.strike(6, false);
        x.write(0, 60);
        x.write(0, 30);
        x.write(0, 14);
        x.dusk(3);
        x.say(2);
        Check.laws(x, " ;");
        Check.feed(x, text);
        return x;
    }

    /** Changes both: afterwards they are of no use any more. */
    static void compare(Check check, String after, HalvedProof x, HalvedProof y) {
        compareTold(check, after, x, y);
        for (int s = 0; s < y.told(0); s++) {
            compareSuit(check, after, x, y, s);
        }
        for (int w = 0; w < y.told(1); w++) {
            for (int i = 0; i < 8; i++) {
                check.due(after + ": witness(" + w + ", " + i + ")", x.witness(w, i), y.witness(w, i));
            }
            check.due(after + ": plan(" + w + ")", x.plan(w), y.plan(w));
        }
        check.due(after + ": many(1)", x.many(1), y.many(1));
        check.due(after + ": seed(5)", x.seed(5), y.seed(5));
        for (int i = 0; i < 2; i++) {
            check.due(after + ": goBack(" + i + ")", x.goBack(i), y.goBack(i));
            check.due(after + ": seed(5)", x.seed(5), y.seed(5));
            check.due(after + ": weight(0, 0)", x.weight(0, 0), y.weight(0, 0));
            check.due(after + ": weight(1, -1)", x.weight(1, -1), y.weight(1, -1));
            check.due(after + ": evening(0, 0)", x.evening(0, 0), y.evening(0, 0));
            check.due(after + ": witness(6, 6)", x.witness(6, 6), y.witness(6, 6));
            check.due(after + ": suit(3, 4)", x.suit(3, 4), y.suit(3, 4));
            compareTold(check, after, x, y);
        }
        Check.feed(x, "6;");
        Check.feed(y, "6;");
        check.due(after + ": court()", x.court(), y.court());
        check.due(after + ": suit(0, 1)", x.suit(0, 1), y.suit(0, 1));
        check.due(after + ": fault()", x.fault(), y.fault());
    }

    private static void compareTold(Check check, String after, HalvedProof x, HalvedProof y) {
        for (int i = 0; i < 9; i++) {
            check.due(after + ": told(" + i + ")", x.told(i), y.told(i));
        }
    }

    private static void compareSuit(Check check, String after, HalvedProof x, HalvedProof y, int s) {
        for (int i = 0; i < 6; i++) {
            check.due(after + ": suit(" + s + ", " + i + ")", x.suit(s, i), y.suit(s, i));
        }
        for (int i = -1; i < 6; i++) {
            check.due(after + ": weight(" + s + ", " + i + ")", x.weight(s, i), y.weight(s, i));
        }
        for (int day = 0; day < 5; day++) {
            check.due(after + ": evening(" + s + ", " + day + ")", x.evening(s, day), y.evening(s, day));
        }
        check.due(after + ": judge(" + s + ")", x.judge(s), y.judge(s));
        check.due(after + ": tear(" + s + ")", x.tear(s), y.tear(s));
        check.due(after + ": most(" + s + ", 3)", x.most(s, 3), y.most(s, 3));
        check.due(after + ": cut(" + s + ")", x.cut(s), y.cut(s));
        check.due(after + ": turns(" + s + ", 1)", x.turns(s, 1), y.turns(s, 1));
    }
}
