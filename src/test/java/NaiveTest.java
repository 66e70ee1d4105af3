import java.util.Random;

/** Runs of drawn calls, on the class and on Naive: each answer must be the same, for as many calls as the document promises. */
public final class NaiveTest {
    private static final int RUNS = 400, CALLS = 512;
    private static final String[] KINDS = {"sworn", "copied", "shown", "against"};
    private static final Check CHECK = new Check();

    private final Random random;
    private final HalvedProof x = new HalvedProof();
    private final Naive y = new Naive();
    private final int run;
    private final int style;
    private int skipped;
    private int chosen;
    private int calls;

    private NaiveTest(int run) {
        this.run = run;
        random = new Random(run * 7919L + 5);
        style = run % 4;
    }

    public static void main(String[] args) {
        int skipped = 0;
        for (int run = 0; run < RUNS && !CHECK.anyWrong(); run++) {
            NaiveTest test = new NaiveTest(run);
            test.go();
            skipped += test.skipped;
        }
        System.out.println(skipped + " answers were not compared");
        CHECK.end();
    }

    private int below(int n) {
        return random.nextInt(n);
    }

    private boolean chance(int of100) {
        return below(100) < of100;
    }

    private void go() {
        tellCourt();
        if (chance(80)) {
            tellLaws();
        }
        while (calls < CALLS && !CHECK.anyWrong()) {
            step();
        }
    }

    /** To be asked once a call: what the object answers behind its 512th is free. */
    private void due(String call, int got, int want) {
        calls++;
        if (calls > CALLS) {
            return;
        }
        if (want == Naive.SKIP) {
            skipped++;
        } else {
            CHECK.due("run " + run + ": " + call, got, want);
        }
    }

    private void feed(String text) {
        int i = 0;
        while (i < text.length()) {
            int n = Math.min(text.length() - i, chance(80) ? 8 : 1 + below(8));
            long bytes = random.nextLong();
            for (int j = 0; j < n; j++) {
                bytes = bytes << 8 | text.charAt(i + j);
            }
            due("feed", x.feed(n, bytes), y.feed(n, bytes));
            i += n;
        }
    }

    private String blank() {
        return chance(5) ? " ".repeat(1 + below(3)) : "";
    }

    private void tellCourt() {
        StringBuilder b = new StringBuilder();
        int suits = style == 0 ? 6 : 1 + below(4);
        // two of each of six SUITS are the greatest COURT
        int each = style == 1 ? 6 : style == 2 ? 3 : style == 0 && chance(50) ? 2 : 1 + below(4);
        int witnesses = 0;
        for (int s = 0; s < suits; s++) {
            int n = Math.min(each, 12 - witnesses);
            int need = 1 + below(style == 0 ? 60 : 130);
            b.append("suit ").append(need).append(' ').append(1 + below(chance(30) ? 399 : 60)).append(blank());
            if (s > 0 && chance(30)) {
                b.append("on").append(blank()).append(below(s));
            }
            b.append(';').append(blank());
            for (int i = 0; i < n; i++) {
                b.append("witness").append(blank()).append(below(10) < 8 ? s : below(s + 1)).append(' ');
                b.append(1 + below(chance(20) ? 99 : 25)).append(KINDS[below(4)]).append(blank()).append(';');
                witnesses++;
            }
        }
        String text = b.length() > 500 ? b.substring(0, 500) : b.toString();
        if (chance(10)) {
            text = spoilt(text);
        }
        due("told(4)", x.told(4), y.told(4));
        feed(text);
        due("court of " + text, x.court(), y.court());
        due("fault of " + text, x.fault(), y.fault());
        tellSome();
    }

    private void tellLaws() {
        StringBuilder b = new StringBuilder();
        int n = below(7);
        int day = below(5) - 1;
        for (int i = 0; i < n; i++) {
            day += 1 + below(chance(60) ? 6 : 60);
            int moon = 1 + below(chance(60) ? 5 : 60);
            b.append("from").append(blank()).append(day).append(' ').append(below(7)).append(' ').append(moon);
            b.append(' ').append(1 + below(chance(60) ? 2 : 6)).append(';');
        }
        String text = chance(5) ? spoilt(b.toString()) : b.toString();
        feed(text);
        due("laws of " + text, x.laws(), y.laws());
        due("fault of " + text, x.fault(), y.fault());
        if (text.length() > 200) {
            due("court of laws", x.court(), y.court());
        }
    }

    private String spoilt(String text) {
        if (text.isEmpty()) {
            return ";";
        }
        StringBuilder b = new StringBuilder(text);
        int at = below(b.length());
        switch (below(3)) {
            case 0: b.deleteCharAt(at); break;
            case 1: b.setCharAt(at, "0 9;asz\u00e9A".charAt(below(9))); break;
            default: b.setLength(at); break;
        }
        return b.toString();
    }

    private void step() {
        chosen = below(100);
        if (chosen < 35) {
            changeDays();
        } else if (chosen < 65) {
            askCalled();
        } else if (chosen < 80) {
            askBooks();
        } else if (chosen < 88) {
            askImages();
        } else if (chosen < 90) {
            askWrongly();
        } else if (chosen < 91 && chance(20)) {
            tellCourt();
        } else if (chosen < 94 && chance(50)) {
            tellLaws();
        } else {
            tellSome();
        }
    }

    private int anySuit() {
        return below(Math.max(1, y.told(0)));
    }

    private int anyWitness() {
        return below(Math.max(1, y.told(1)));
    }

    private void changeDays() {
        int w = anyWitness();
        switch (below(12)) {
            case 0: case 1: case 2: case 3: case 4: due("say", x.say(w), y.say(w)); break;
            case 5: boolean is = chance(40); due("strike", x.strike(w, is), y.strike(w, is)); break;
            case 6: case 7: due("dusk(1)", x.dusk(1), y.dusk(1)); break;
            case 8: int n = 1 + below(chance(20) ? 400 : 9); due("dusk", x.dusk(n), y.dusk(n)); break;
            case 9: int m = 1 + below(chance(30) ? 60 : 4);
                int q = below(101);
                due("drift", x.drift(m, q), y.drift(m, q));
                break;
            case 10: if (chance(40)) due("begin", x.begin(), y.begin()); break;
            default: int v = below(Integer.MAX_VALUE); due("seed", x.seed(v), y.seed(v)); break;
        }
    }

    private void askCalled() {
        int s = anySuit();
        int w = anyWitness();
        int k = below(chance(70) ? 4 : 31);
        switch (below(8)) {
            case 0: case 1: due("most", x.most(s, k), y.most(s, k)); break;
            case 2: due("soonest", x.soonest(s), y.soonest(s)); break;
            case 3: case 4: due("plan", x.plan(w), y.plan(w)); break;
            case 5: if (chance(30)) due("cut", x.cut(s), y.cut(s)); break;
            case 6: due("turns(0)", x.turns(s, 0), y.turns(s, 0)); due("turns(1)", x.turns(s, 1), y.turns(s, 1)); break;
            default: due("many(0)", x.many(0), y.many(0)); due("many(1)", x.many(1), y.many(1)); break;
        }
    }

    private void askBooks() {
        int s = anySuit();
        int day = below(400);
        int near = Math.max(0, y.told(3) - 1 - below(5));
        switch (below(6)) {
            case 0: case 1: int thirds = right(s); due("write", x.write(s, thirds), y.write(s, thirds)); break;
            case 2: if (chance(10)) due("tear", x.tear(s), y.tear(s)); break;
            case 3: due("judge", x.judge(s), y.judge(s)); break;
            case 4: due("evening", x.evening(s, day), y.evening(s, day)); break;
            default: due("evening", x.evening(s, near), y.evening(s, near)); break;
        }
    }

    /** Mostly what the next evening of the book was, that books may be right for long. */
    private int right(int s) {
        int is = chance(90) ? y.evening(s, below(60)) : below(100);
        return Math.max(0, is);
    }

    private void askImages() {
        int i = below(2);
        int v = below(100);
        switch (below(4)) {
            case 0: case 1: due("keep", x.keep(i), y.keep(i)); break;
            case 2: due("goBack", x.goBack(i), y.goBack(i)); break;
            default: due("seed", x.seed(v), y.seed(v)); break;
        }
    }

    private int odd() {
        int[] all = {-1, -2, 0, 1, 2, 6, 12, 31, 61, 101, 400, 401, 100000, Integer.MIN_VALUE, Integer.MAX_VALUE};
        return all[below(all.length)];
    }

    private void askWrongly() {
        int a = odd();
        int b = odd();
        due("told", x.told(a), y.told(a));
        due("suit", x.suit(a, b), y.suit(a, b));
        due("witness", x.witness(a, b), y.witness(a, b));
        due("weight", x.weight(a, b), y.weight(a, b));
        due("most", x.most(a, b), y.most(a, b));
        due("turns", x.turns(a, b), y.turns(a, b));
        due("write", x.write(a, b), y.write(a, b));
        due("evening", x.evening(a, b), y.evening(a, b));
        due("many", x.many(a), y.many(a));
        due("judge", x.judge(a), y.judge(a));
        due("soonest", x.soonest(a), y.soonest(a));
        due("plan", x.plan(a), y.plan(a));
        due("cut", x.cut(a), y.cut(a));
        due("drift", x.drift(a, b), y.drift(a, b));
        due("keep", x.keep(a), y.keep(a));
        due("goBack", x.goBack(a), y.goBack(a));
    }

    private void tellSome() {
        for (int i = -1; i < 10; i++) {
            due("told(" + i + ")", x.told(i), y.told(i));
        }
        int s = below(y.told(0) + 2) - 1;
        for (int i = -1; i < 7; i++) {
            due("suit(" + s + ", " + i + ")", x.suit(s, i), y.suit(s, i));
            int figure = i < 4 ? i : below(401);
            due("weight(" + s + ", " + figure + ")", x.weight(s, figure), y.weight(s, figure));
        }
        int w = below(y.told(1) + 2) - 1;
        for (int i = -1; i < 9; i++) {
            due("witness(" + w + ", " + i + ")", x.witness(w, i), y.witness(w, i));
        }
    }
}
