import java.util.function.ToIntFunction;

/**
 * "REFUSALS, of several the first in this order: UNKNOWN .., OUTSIDE .., NOT .., FULL. What is refused changes nothing."
 * Each refused call is made on one of two twins alone.
 */
public final class RefusalsTest {
    private static final int UNKNOWN = HalvedProof.UNKNOWN, OUTSIDE = HalvedProof.OUTSIDE;
    private static final int NOT = HalvedProof.NOT, FULL = HalvedProof.FULL;
    private static final int LEAST = Integer.MIN_VALUE, GREATEST = Integer.MAX_VALUE;
    private static final int[] NO_SUITS = {-1, 4, 5, 6, 12, LEAST, GREATEST};
    private static final int[] NO_WITNESSES = {-1, 7, 11, 12, 32, LEAST, GREATEST};
    private static final int WENT_ON = 0, HANGING = 1, FALLEN = 2, WON = 3;
    private static final Check CHECK = new Check();

    public static void main(String[] args) {
        stateIsAsTold();
        texts();
        suits();
        witnesses();
        days();
        called();
        books();
        bookIsFull();
        drawsAndImages();
        noCourt();
        CHECK.end();
    }

    private static void refused(String call, int want, ToIntFunction<HalvedProof> refusal) {
        refusedWith("suit 5 ", call, want, refusal);
    }

    private static void refusedWith(String text, String call, int want, ToIntFunction<HalvedProof> refusal) {
        HalvedProof x = Twins.made(text);
        HalvedProof y = Twins.made(text);
        CHECK.due(call, refusal.applyAsInt(x), want);
        CHECK.due(call + " once more", refusal.applyAsInt(x), want);
        CHECK.due("fault after the refused " + call, x.fault(), 1);
        Twins.compare(CHECK, "after the refused " + call, x, y);
    }

    /** What the tests below rest upon. */
    private static void stateIsAsTold() {
        HalvedProof x = Twins.made("suit 5 ");
        CHECK.due("DAY", x.told(3), 4);
        CHECK.due("one spoke", x.told(5), 1);
        CHECK.due("bytes", x.told(4), 7);
        CHECK.due("goes on", x.suit(WENT_ON, 3), 0);
        CHECK.due("goes on", x.suit(HANGING, 3), 0);
        CHECK.due("FELL", x.suit(FALLEN, 3), 2);
        CHECK.due("WON", x.suit(WON, 3), 1);
        CHECK.due("halves", x.weight(WENT_ON, 0), 1);
        CHECK.due("WRONG", x.judge(WENT_ON), 2);
    }

    private static void texts() {
        for (int n : new int[] {0, 9, -1, LEAST, GREATEST}) {
            refused("feed(" + n + ")", OUTSIDE, x -> x.feed(n, -1));
        }
        String blanks = " ".repeat(493);
        // the comparing itself feeds two bytes more, which are then refused alike
        refusedWith(blanks, "feed(8)", FULL, x -> x.feed(8, -1));
        refusedWith(blanks + " ".repeat(7), "feed(1)", FULL, x -> x.feed(1, ';'));
        refusedWith(blanks + " ".repeat(7), "feed(0)", OUTSIDE, x -> x.feed(0, ';'));
        refusedWith(blanks + " ".repeat(7), "feed(9)", OUTSIDE, x -> x.feed(9, ';'));
        refusedWith(" ".repeat(194) + "suit 5 ", "laws()", NOT, HalvedProof::laws);
        refusedWith(" ".repeat(491) + "suit 5 ", "laws()", NOT, HalvedProof::laws);
        for (int what : new int[] {-1, 9, LEAST, GREATEST}) {
            refused("told(" + what + ")", OUTSIDE, x -> x.told(what));
        }
    }

    private static void suits() {
        for (int s : NO_SUITS) {
            refused("suit(" + s + ", 0)", UNKNOWN, x -> x.suit(s, 0));
            refused("suit(" + s + ", 6)", UNKNOWN, x -> x.suit(s, 6));
            refused("suit(" + s + ", -1)", UNKNOWN, x -> x.suit(s, -1));
            refused("weight(" + s + ", 0)", UNKNOWN, x -> x.weight(s, 0));
            refused("weight(" + s + ", -1)", UNKNOWN, x -> x.weight(s, -1));
            refused("weight(" + s + ", -2)", UNKNOWN, x -> x.weight(s, -2));
            refused("weight(" + s + ", 400)", UNKNOWN, x -> x.weight(s, 400));
        }
        for (int what : new int[] {-1, 6, LEAST, GREATEST}) {
            refused("suit(0, " + what + ")", OUTSIDE, x -> x.suit(0, what));
            refused("suit(3, " + what + ")", OUTSIDE, x -> x.suit(3, what));
        }
        for (int i : new int[] {-2, 400, LEAST, GREATEST}) {
            refused("weight(0, " + i + ")", OUTSIDE, x -> x.weight(0, i));
            refused("weight(3, " + i + ")", OUTSIDE, x -> x.weight(3, i));
        }
    }

    private static void witnesses() {
        for (int w : NO_WITNESSES) {
            refused("witness(" + w + ", 0)", UNKNOWN, x -> x.witness(w, 0));
            refused("witness(" + w + ", 8)", UNKNOWN, x -> x.witness(w, 8));
            refused("witness(" + w + ", -1)", UNKNOWN, x -> x.witness(w, -1));
            refused("say(" + w + ")", UNKNOWN, x -> x.say(w));
            refused("strike(" + w + ", true)", UNKNOWN, x -> x.strike(w, true));
            refused("strike(" + w + ", false)", UNKNOWN, x -> x.strike(w, false));
            refused("plan(" + w + ")", UNKNOWN, x -> x.plan(w));
        }
        for (int what : new int[] {-1, 8, LEAST, GREATEST}) {
            refused("witness(0, " + what + ")", OUTSIDE, x -> x.witness(0, what));
            refused("witness(6, " + what + ")", OUTSIDE, x -> x.witness(6, what));
        }
        refused("say(0), in its moon", NOT, x -> x.say(0));
        refused("say(2), spoke today", NOT, x -> x.say(2));
        refused("say(3), showed", NOT, x -> x.say(3));
        refused("say(4), STRUCK", NOT, x -> x.say(4));
        refused("say(5), WON", NOT, x -> x.say(5));
        sayByTalkers();
    }

    private static void sayByTalkers() {
        HalvedProof x = Twins.made("");
        HalvedProof y = Twins.made("");
        for (HalvedProof z : new HalvedProof[] {x, y}) {
            z.say(1);
            z.dusk(1);
            z.strike(4, false);
            Check.laws(z, "from 0 2 5 1;");
            z.say(0);
        }
        CHECK.due("T is used up", x.say(6), NOT);
        CHECK.due("and the SUIT FELL", x.say(4), NOT);
        Twins.compare(CHECK, "after the refused say by T", x, y);
    }

    private static void days() {
        for (int n : new int[] {0, 401, -1, LEAST, GREATEST}) {
            refused("dusk(" + n + ")", OUTSIDE, x -> x.dusk(n));
        }
        for (int n : new int[] {0, 61, -1, LEAST, GREATEST}) {
            refused("drift(" + n + ", 50)", OUTSIDE, x -> x.drift(n, 50));
            refused("drift(" + n + ", 101)", OUTSIDE, x -> x.drift(n, 101));
        }
        for (int q : new int[] {-1, 101, LEAST, GREATEST}) {
            refused("drift(1, " + q + ")", OUTSIDE, x -> x.drift(1, q));
            refused("drift(60, " + q + ")", OUTSIDE, x -> x.drift(60, q));
        }
    }

    private static void called() {
        for (int s : NO_SUITS) {
            refused("most(" + s + ", 0)", UNKNOWN, x -> x.most(s, 0));
            refused("most(" + s + ", 31)", UNKNOWN, x -> x.most(s, 31));
            refused("most(" + s + ", -1)", UNKNOWN, x -> x.most(s, -1));
            refused("soonest(" + s + ")", UNKNOWN, x -> x.soonest(s));
            refused("cut(" + s + ")", UNKNOWN, x -> x.cut(s));
            refused("turns(" + s + ", 0)", UNKNOWN, x -> x.turns(s, 0));
            refused("turns(" + s + ", 2)", UNKNOWN, x -> x.turns(s, 2));
        }
        for (int s = 0; s < 4; s++) {
            int suit = s;
            for (int k : new int[] {-1, 31, LEAST, GREATEST}) {
                refused("most(" + s + ", " + k + ")", OUTSIDE, x -> x.most(suit, k));
            }
            for (int what : new int[] {-1, 2, LEAST, GREATEST}) {
                refused("turns(" + s + ", " + what + ")", OUTSIDE, x -> x.turns(suit, what));
            }
        }
        for (int s : new int[] {FALLEN, WON}) {
            refused("most(" + s + ", 0)", NOT, x -> x.most(s, 0));
            refused("most(" + s + ", 30)", NOT, x -> x.most(s, 30));
            refused("cut(" + s + ")", NOT, x -> x.cut(s));
            refused("turns(" + s + ", 0)", NOT, x -> x.turns(s, 0));
            refused("turns(" + s + ", 1)", NOT, x -> x.turns(s, 1));
        }
        for (int what : new int[] {-1, 2, LEAST, GREATEST}) {
            refused("many(" + what + ")", OUTSIDE, x -> x.many(what));
        }
    }

    private static void books() {
        for (int s : NO_SUITS) {
            refused("write(" + s + ", 0)", UNKNOWN, x -> x.write(s, 0));
            refused("write(" + s + ", -1)", UNKNOWN, x -> x.write(s, -1));
            refused("write(" + s + ", 100000)", UNKNOWN, x -> x.write(s, 100000));
            refused("tear(" + s + ")", UNKNOWN, x -> x.tear(s));
            refused("judge(" + s + ")", UNKNOWN, x -> x.judge(s));
            refused("evening(" + s + ", 0)", UNKNOWN, x -> x.evening(s, 0));
            refused("evening(" + s + ", 400)", UNKNOWN, x -> x.evening(s, 400));
            refused("evening(" + s + ", -1)", UNKNOWN, x -> x.evening(s, -1));
        }
        for (int thirds : new int[] {-1, 100000, LEAST, GREATEST}) {
            refused("write(0, " + thirds + ")", OUTSIDE, x -> x.write(0, thirds));
            refused("write(3, " + thirds + ")", OUTSIDE, x -> x.write(3, thirds));
        }
        for (int day : new int[] {-1, 400, LEAST, GREATEST}) {
            refused("evening(0, " + day + ")", OUTSIDE, x -> x.evening(0, day));
            refused("evening(3, " + day + ")", OUTSIDE, x -> x.evening(3, day));
        }
    }

    private static void bookIsFull() {
        int[] refusals = {FULL, OUTSIDE, OUTSIDE, UNKNOWN};
        int[][] asked = {{0, 7}, {0, -1}, {0, 100000}, {4, 100000}};
        for (int i = 0; i < asked.length; i++) {
            HalvedProof x = Twins.made("");
            HalvedProof y = Twins.made("");
            for (int n = 4; n <= 60; n++) {
                x.write(0, n);
                y.write(0, n);
            }
            CHECK.due("write to a full BOOK", x.write(asked[i][0], asked[i][1]), refusals[i]);
            Twins.compare(CHECK, "after a refused write", x, y);
        }
    }

    private static void drawsAndImages() {
        for (int v : new int[] {-1, -2, LEAST}) {
            refused("seed(" + v + ")", OUTSIDE, x -> x.seed(v));
        }
        for (int i : new int[] {-1, 2, 3, LEAST, GREATEST}) {
            refused("keep(" + i + ")", UNKNOWN, x -> x.keep(i));
            refused("goBack(" + i + ")", UNKNOWN, x -> x.goBack(i));
        }
        refused("goBack(1)", NOT, x -> x.goBack(1));
    }

    /** Without a COURT each SUIT and each WITNESS is one that there is not. */
    private static void noCourt() {
        for (int of : new int[] {0, 1, -1, GREATEST}) {
            HalvedProof x = new HalvedProof();
            int[] answers = {x.suit(of, 0), x.suit(of, 9), x.witness(of, 0), x.witness(of, 9), x.weight(of, 0), x.weight(of, 400),
                x.say(of), x.strike(of, true), x.most(of, 0), x.most(of, 31), x.soonest(of), x.plan(of), x.cut(of),
                x.turns(of, 0), x.turns(of, 2), x.write(of, 0), x.write(of, -1), x.tear(of), x.judge(of),
                x.evening(of, 0), x.evening(of, 400)};
            for (int i = 0; i < answers.length; i++) {
                CHECK.due("call " + i + " without a COURT", answers[i], UNKNOWN);
            }
        }
    }
}
