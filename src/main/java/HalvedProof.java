import java.util.Arrays;

/** Suits, witnesses and laws: proof that is halved at every dusk. What each call answers stands in DOC.md. */
public final class HalvedProof {
    public static final int NONE = -1, UNKNOWN = -1000000001, OUTSIDE = -1000000002, NOT = -1000000003, FULL = -1000000004;

    private static final int TEXT_BYTES = 500, LAW_BYTES = 200, FED_BYTES = 8;
    private static final int SUITS = 6, WITNESSES = 12, WITNESSES_OF_SUIT = 6, CLAUSES = 6;
    private static final int LAST_DAY = 399, DAYS = 400, FIGURES = 400, MOST_DUSKS = 400, MOST_DRIFT = 60;
    private static final int CALL_DAYS = 31, PLANS = 64, BOOK_EVENINGS = 60, MOST_THIRDS = 99999, IMAGES = 2;
    private static final int GOES_ON = 0, WON = 1, FELL = 2;
    private static final int SWORN = 0, COPIED = 1, SHOWN = 2, AGAINST = 3;
    private static final int MISPLACED = 1, UNFIT = 2, TOO_MANY = 3, TOO_MANY_HERE = 4, NO_FAULT = 0, FAULT_BASE = -10;

    private final Text text;
    private final Reader reader;
    private final Trial trial;
    private final Called called;
    private final Duel duel;
    private final Today today;
    private final Books books;
    private final State[] images;
    private final boolean[] kept;
    private Court spareCourt;
    private Laws spareLaws;
    private int faultPlace;

    public HalvedProof() {
        text = new Text();
        reader = new Reader(text);
        trial = new Trial();
        called = new Called(trial);
        duel = new Duel(trial);
        today = new Today(trial);
        books = new Books();
        images = new State[IMAGES];
        for (int i = 0; i < IMAGES; i++) {
            images[i] = new State();
        }
        kept = new boolean[IMAGES];
        spareCourt = new Court();
        spareLaws = new Laws();
        faultPlace = NONE;
    }

    // ---- texts

    public int feed(int n, long bytes) {
        if (n < 1 || n > FED_BYTES) {
            return OUTSIDE;
        }
        if (text.length + n > TEXT_BYTES) {
            return FULL;
        }
        for (int i = n - 1; i >= 0; i--) {
            text.append((byte) (bytes >> (8 * i)));
        }
        return text.length;
    }

    public int court() {
        reader.start();
        spareCourt.readFrom(reader);
        text.length = 0;
        faultPlace = reader.faultPlace;
        if (reader.fault != NO_FAULT) {
            return FAULT_BASE - reader.fault;
        }
        Court old = trial.court;
        trial.court = spareCourt;
        spareCourt = old;
        trial.now.startAgain();
        books.tearAll();
        for (int i = 0; i < IMAGES; i++) {
            kept[i] = false;
        }
        return trial.court.suits;
    }

    public int laws() {
        if (text.length > LAW_BYTES) {
            return NOT;
        }
        reader.start();
        spareLaws.readFrom(reader);
        text.length = 0;
        faultPlace = reader.faultPlace;
        if (reader.fault != NO_FAULT) {
            return FAULT_BASE - reader.fault;
        }
        Laws old = trial.laws;
        trial.laws = spareLaws;
        spareLaws = old;
        return trial.laws.clauses;
    }

    public int fault() {
        return faultPlace;
    }

    public int told(int what) {
        int day = trial.now.day;
        switch (what) {
            case 0: return trial.court.suits;
            case 1: return trial.court.witnesses;
            case 2: return trial.laws.clauses;
            case 3: return day;
            case 4: return text.length;
            case 5: return trial.now.spoken;
            case 6: return trial.laws.copiesOn(day);
            case 7: return trial.laws.moonOn(day);
            case 8: return trial.laws.talkersOn(day);
            default: return OUTSIDE;
        }
    }

    public int suit(int s, int what) {
        if (!trial.court.hasSuit(s)) {
            return UNKNOWN;
        }
        switch (what) {
            case 0: return trial.court.need[s];
            case 1: return trial.court.lasts[s];
            case 2: return trial.court.hangs[s];
            case 3: return trial.now.course[s];
            case 4: return trial.now.ended[s];
            case 5: return trial.court.witnessesOf(s);
            default: return OUTSIDE;
        }
    }

    public int witness(int w, int what) {
        if (!trial.court.hasWitness(w)) {
            return UNKNOWN;
        }
        switch (what) {
            case 0: return trial.court.suitOf[w];
            case 1: return trial.court.weighs[w];
            case 2: return trial.court.kind[w];
            case 3: return trial.freshOn(w, trial.now.day);
            case 4: return trial.now.latest[w];
            case 5: return trial.now.times[w];
            case 6: return trial.now.struck[w];
            case 7: return oneIf(trial.maySpeak(w));
            default: return OUTSIDE;
        }
    }

    public int weight(int s, int i) {
        if (!trial.court.hasSuit(s)) {
            return UNKNOWN;
        }
        if (i < NONE || i >= FIGURES) {
            return OUTSIDE;
        }
        return i == NONE ? trial.now.whole[s] : trial.now.figure(s, i);
    }

    // ---- days

    public int say(int w) {
        if (!trial.court.hasWitness(w)) {
            return UNKNOWN;
        }
        if (!trial.maySpeak(w)) {
            return NOT;
        }
        return trial.hear(w);
    }

    public int strike(int w, boolean is) {
        if (!trial.court.hasWitness(w)) {
            return UNKNOWN;
        }
        int was = trial.now.struck[w];
        trial.now.struck[w] = oneIf(is);
        return was;
    }

    public int dusk(int n) {
        if (n < 1 || n > MOST_DUSKS) {
            return OUTSIDE;
        }
        for (int i = 0; i < n && trial.now.day < LAST_DAY; i++) {
            trial.endDay();
        }
        return trial.now.day;
    }

    public int drift(int n, int q) {
        if (n < 1 || n > MOST_DRIFT || q < 0 || q > 100) {
            return OUTSIDE;
        }
        int spoke = 0;
        for (int i = 0; i < n && trial.now.day < LAST_DAY; i++) {
            spoke += trial.passDayByDraws(q);
        }
        return spoke;
    }

    public int begin() {
        int was = trial.now.day;
        trial.now.startAgain();
        return was;
    }

    // ---- called

    public int most(int s, int k) {
        if (!trial.court.hasSuit(s)) {
            return UNKNOWN;
        }
        if (k < 0 || k >= CALL_DAYS) {
            return OUTSIDE;
        }
        if (!trial.goesOn(s) || trial.now.day + k > LAST_DAY) {
            return NOT;
        }
        return called.mostOn(s, k);
    }

    public int soonest(int s) {
        if (!trial.court.hasSuit(s)) {
            return UNKNOWN;
        }
        return called.soonestOf(s);
    }

    public int plan(int w) {
        if (!trial.court.hasWitness(w)) {
            return UNKNOWN;
        }
        int k = called.soonestOf(trial.court.suitOf[w]);
        return k == NONE ? NONE : called.plannedDayOf(w, k);
    }

    public int cut(int s) {
        if (!trial.court.hasSuit(s)) {
            return UNKNOWN;
        }
        if (!trial.goesOn(s)) {
            return NOT;
        }
        return called.fewestToStrike(s);
    }

    public int turns(int s, int what) {
        if (!trial.court.hasSuit(s)) {
            return UNKNOWN;
        }
        if (what < 0 || what > 1) {
            return OUTSIDE;
        }
        if (!trial.goesOn(s)) {
            return NOT;
        }
        duel.prepare(s);
        return what == 0 ? oneIf(duel.isWon()) : duel.bestCall();
    }

    public int many(int what) {
        if (what < 0 || what > 1) {
            return OUTSIDE;
        }
        int set = today.winnableTogether();
        return what == 0 ? Integer.bitCount(set) : set;
    }

    // ---- books

    public int write(int s, int thirds) {
        if (!trial.court.hasSuit(s)) {
            return UNKNOWN;
        }
        if (thirds < 0 || thirds > MOST_THIRDS) {
            return OUTSIDE;
        }
        if (books.evenings[s] >= BOOK_EVENINGS) {
            return FULL;
        }
        return books.append(s, thirds);
    }

    public int tear(int s) {
        if (!trial.court.hasSuit(s)) {
            return UNKNOWN;
        }
        int had = books.evenings[s];
        books.evenings[s] = 0;
        return had;
    }

    public int judge(int s) {
        if (!trial.court.hasSuit(s)) {
            return UNKNOWN;
        }
        return books.firstWrong(s, trial.now);
    }

    public int evening(int s, int day) {
        if (!trial.court.hasSuit(s)) {
            return UNKNOWN;
        }
        if (day < 0 || day > LAST_DAY) {
            return OUTSIDE;
        }
        return day < trial.now.day ? trial.now.atDusk[s][day] : NONE;
    }

    // ---- draws, images

    public int seed(int v) {
        if (v < 0) {
            return OUTSIDE;
        }
        int was = trial.now.drawn;
        trial.now.drawn = v;
        return was;
    }

    public int keep(int i) {
        if (i < 0 || i >= IMAGES) {
            return UNKNOWN;
        }
        images[i].become(trial.now);
        kept[i] = true;
        return 1;
    }

    public int goBack(int i) {
        if (i < 0 || i >= IMAGES) {
            return UNKNOWN;
        }
        if (!kept[i]) {
            return NOT;
        }
        trial.now.become(images[i]);
        return 1;
    }

    private static int oneIf(boolean is) {
        return is ? 1 : 0;
    }

    /** The bytes that were fed. */
    private static final class Text {
        final byte[] bytes = new byte[TEXT_BYTES];
        int length;

        void append(byte b) {
            if (length >= 0 && length < TEXT_BYTES) {
                bytes[length] = b;
                length++;
            }
        }
    }

    /** Takes words, NUMBERS and signs off a text one by one, and holds on at the first FAULT. */
    private static final class Reader {
        private static final int END = -1;
        private final Text text;
        int fault;
        int faultPlace;
        private int place;
        private int takenPlace;

        Reader(Text text) {
            this.text = text;
        }

        void start() {
            fault = NO_FAULT;
            faultPlace = NONE;
            place = 0;
            pass(0);
        }

        boolean hasMore() {
            return fault == NO_FAULT && place < text.length;
        }

        boolean isSound() {
            return fault == NO_FAULT;
        }

        void refuseHere(int number) {
            refuseAt(place, number);
        }

        /** For what only shows once a word or a NUMBER has been taken: the FAULT is where that began. */
        void refuseTaken(int number) {
            refuseAt(takenPlace, number);
        }

        boolean takesWord(String word) {
            if (!isSound() || !seesWord(word)) {
                return false;
            }
            pass(word.length());
            return true;
        }

        int takeNumber(int low, int high) {
            if (!isSound()) {
                return low;
            }
            int figures = 0;
            int value = 0;
            for (int i = place; i < text.length && isFigure(byteAt(i)); i++) {
                figures++;
                // further figures make the FAULT sure, and their value might overflow
                if (figures <= 3) {
                    value = value * 10 + byteAt(i) - '0';
                }
            }
            if (figures == 0) {
                refuseHere(MISPLACED);
                return low;
            }
            if (figures > 3 || value < low || value > high) {
                refuseHere(UNFIT);
                return low;
            }
            pass(figures);
            return value;
        }

        void takeSemicolon() {
            if (!isSound()) {
                return;
            }
            if (byteAt(place) != ';') {
                refuseHere(MISPLACED);
                return;
            }
            pass(1);
        }

        private void refuseAt(int where, int number) {
            if (fault == NO_FAULT) {
                fault = number;
                faultPlace = where;
            }
        }

        private void pass(int bytes) {
            takenPlace = place;
            place += bytes;
            for (int i = 0; i < TEXT_BYTES && byteAt(place) == ' '; i++) {
                place++;
            }
        }

        private boolean seesWord(String word) {
            for (int i = 0; i < word.length(); i++) {
                if (byteAt(place + i) != word.charAt(i)) {
                    return false;
                }
            }
            return !isLetter(byteAt(place + word.length()));
        }

        private int byteAt(int i) {
            return i >= 0 && i < text.length && i < TEXT_BYTES ? text.bytes[i] & 255 : END;
        }

        private static boolean isFigure(int b) {
            return b >= '0' && b <= '9';
        }

        private static boolean isLetter(int b) {
            return b >= 'a' && b <= 'z';
        }
    }

    /** THE COURT as its text told it. */
    private static final class Court {
        int suits;
        int witnesses;
        final int[] need = new int[SUITS];
        final int[] lasts = new int[SUITS];
        final int[] hangs = new int[SUITS];
        final int[] suitOf = new int[WITNESSES];
        final int[] weighs = new int[WITNESSES];
        final int[] kind = new int[WITNESSES];

        boolean hasSuit(int s) {
            return s >= 0 && s < suits && s < SUITS;
        }

        boolean hasWitness(int w) {
            return w >= 0 && w < witnesses && w < WITNESSES;
        }

        /** What a SUIT's WEIGHT must reach, in THIRDS. */
        int goalOf(int s) {
            return hasSuit(s) ? 3 * need[s] : 0;
        }

        int witnessesOf(int s) {
            int set = 0;
            for (int w = 0; w < witnesses && w < WITNESSES; w++) {
                if (suitOf[w] == s) {
                    set |= 1 << w;
                }
            }
            return set;
        }

        void readFrom(Reader r) {
            suits = 0;
            witnesses = 0;
            for (int i = 0; i < TEXT_BYTES && r.hasMore(); i++) {
                if (r.takesWord("suit")) {
                    readSuit(r);
                } else if (r.takesWord("witness")) {
                    readWitness(r);
                } else {
                    r.refuseHere(MISPLACED);
                }
            }
        }

        private void readSuit(Reader r) {
            if (suits >= SUITS) {
                r.refuseTaken(TOO_MANY);
                return;
            }
            need[suits] = r.takeNumber(1, 999);
            lasts[suits] = r.takeNumber(1, LAST_DAY);
            hangs[suits] = r.takesWord("on") ? r.takeNumber(0, suits - 1) : NONE;
            r.takeSemicolon();
            suits++;
        }

        private void readWitness(Reader r) {
            if (witnesses >= WITNESSES) {
                r.refuseTaken(TOO_MANY);
                return;
            }
            int s = r.takeNumber(0, suits - 1);
            if (r.isSound() && Integer.bitCount(witnessesOf(s)) >= WITNESSES_OF_SUIT) {
                r.refuseTaken(TOO_MANY_HERE);
            }
            suitOf[witnesses] = s;
            weighs[witnesses] = r.takeNumber(1, 99);
            kind[witnesses] = readKind(r);
            r.takeSemicolon();
            witnesses++;
        }

        private static int readKind(Reader r) {
            if (r.takesWord("sworn")) {
                return SWORN;
            }
            if (r.takesWord("copied")) {
                return COPIED;
            }
            if (r.takesWord("shown")) {
                return SHOWN;
            }
            if (r.takesWord("against")) {
                return AGAINST;
            }
            r.refuseHere(MISPLACED);
            return SWORN;
        }
    }

    /** LAWS as their text told them. */
    private static final class Laws {
        int clauses;
        private final int[] from = new int[CLAUSES];
        private final int[] copies = new int[CLAUSES];
        private final int[] moon = new int[CLAUSES];
        private final int[] talkers = new int[CLAUSES];

        int copiesOn(int day) {
            int i = clauseOn(day);
            return i >= 0 ? copies[i] : 1;
        }

        int moonOn(int day) {
            int i = clauseOn(day);
            return i >= 0 ? moon[i] : 28;
        }

        int talkersOn(int day) {
            int i = clauseOn(day);
            return i >= 0 ? talkers[i] : 2;
        }

        void readFrom(Reader r) {
            clauses = 0;
            for (int i = 0; i < TEXT_BYTES && r.hasMore(); i++) {
                if (r.takesWord("from")) {
                    readClause(r);
                } else {
                    r.refuseHere(MISPLACED);
                }
            }
        }

        private void readClause(Reader r) {
            if (clauses >= CLAUSES) {
                r.refuseTaken(TOO_MANY);
                return;
            }
            from[clauses] = r.takeNumber(0, LAST_DAY);
            if (r.isSound() && clauses > 0 && from[clauses] <= from[clauses - 1]) {
                r.refuseTaken(TOO_MANY_HERE);
            }
            copies[clauses] = r.takeNumber(0, 6);
            moon[clauses] = r.takeNumber(1, 60);
            talkers[clauses] = r.takeNumber(1, 6);
            r.takeSemicolon();
            clauses++;
        }

        private int clauseOn(int day) {
            int latest = NONE;
            for (int i = 0; i < clauses && i < CLAUSES && from[i] <= day; i++) {
                latest = i;
            }
            return latest;
        }
    }

    /** All that an IMAGE keeps. */
    private static final class State {
        int day;
        int spoken;
        int drawn;
        final int[] latest = new int[WITNESSES];
        final int[] times = new int[WITNESSES];
        final int[] struck = new int[WITNESSES];
        final int[] whole = new int[SUITS];
        final int[] course = new int[SUITS];
        final int[] ended = new int[SUITS];
        final int[][] atDusk = new int[SUITS][DAYS];

        State() {
            startAgain();
        }

        /** THE SEED stays. What stands in atDusk from THE DAY on is never read, so it may stay too. */
        void startAgain() {
            day = 0;
            spoken = 0;
            Arrays.fill(latest, NONE);
            Arrays.fill(times, 0);
            Arrays.fill(struck, 0);
            Arrays.fill(whole, 0);
            Arrays.fill(course, GOES_ON);
            Arrays.fill(ended, NONE);
        }

        void become(State other) {
            day = other.day;
            spoken = other.spoken;
            drawn = other.drawn;
            System.arraycopy(other.latest, 0, latest, 0, WITNESSES);
            System.arraycopy(other.times, 0, times, 0, WITNESSES);
            System.arraycopy(other.struck, 0, struck, 0, WITNESSES);
            System.arraycopy(other.whole, 0, whole, 0, SUITS);
            System.arraycopy(other.course, 0, course, 0, SUITS);
            System.arraycopy(other.ended, 0, ended, 0, SUITS);
            for (int s = 0; s < SUITS; s++) {
                System.arraycopy(other.atDusk[s], 0, atDusk[s], 0, DAYS);
            }
        }

        /**
         * Only whole THIRDS are ever added, so a dusk pushes the lowest bit of the whole ones behind the point
         * and nothing changes it there: figure i is the lowest bit of i + 1 evenings ago.
         */
        int figure(int s, int i) {
            int evening = day - 1 - i;
            return evening >= 0 && evening < DAYS && s >= 0 && s < SUITS ? atDusk[s][evening] & 1 : 0;
        }

        void halve(int s) {
            if (s >= 0 && s < SUITS && day >= 0 && day < DAYS) {
                atDusk[s][day] = whole[s];
                whole[s] = whole[s] / 2;
            }
        }

        void end(int s, int how) {
            if (s >= 0 && s < SUITS) {
                course[s] = how;
                ended[s] = day;
            }
        }

        int draw(int n) {
            drawn = (int) ((drawn * 1103515245L + 12345L) & 2147483647L);
            return n > 0 ? drawn / 65536 % n : 0;
        }
    }

    /** THE COURT under its LAWS, as it is now. */
    private static final class Trial {
        Court court = new Court();
        Laws laws = new Laws();
        final State now = new State();

        boolean goesOn(int s) {
            return court.hasSuit(s) && now.course[s] == GOES_ON;
        }

        int freshOn(int w, int day) {
            if (!court.hasWitness(w)) {
                return 0;
            }
            switch (court.kind[w]) {
                case COPIED: return court.weighs[w] * laws.copiesOn(day);
                case AGAINST: return court.weighs[w] * 6;
                default: return court.weighs[w] * 3;
            }
        }

        /** Whether a WITNESS might speak on a DAY, T aside. */
        boolean mayBeCalled(int w, int day) {
            if (!court.hasWitness(w) || now.struck[w] == 1 || !goesOn(court.suitOf[w])) {
                return false;
            }
            if (now.times[w] == 0) {
                return true;
            }
            return court.kind[w] != SHOWN && day >= now.latest[w] + laws.moonOn(day);
        }

        boolean maySpeak(int w) {
            return mayBeCalled(w, now.day) && roomOn(now.day) > 0;
        }

        /** How many more T lets speak on a DAY; LAWS told late may leave less than none. */
        int roomOn(int day) {
            int spoken = day == now.day ? now.spoken : 0;
            return Math.max(0, laws.talkersOn(day) - spoken);
        }

        int hear(int w) {
            if (!court.hasWitness(w) || !court.hasSuit(court.suitOf[w])) {
                return GOES_ON;
            }
            int s = court.suitOf[w];
            now.spoken++;
            now.latest[w] = now.day;
            now.times[w]++;
            now.whole[s] += freshOn(w, now.day);
            look(s);
            return now.course[s];
        }

        void endDay() {
            for (int s = 0; s < court.suits; s++) {
                look(s);
                if (goesOn(s) && now.day == court.lasts[s]) {
                    now.end(s, FELL);
                }
                now.halve(s);
            }
            now.day++;
            now.spoken = 0;
        }

        int passDayByDraws(int q) {
            int spoke = 0;
            for (int w = 0; w < court.witnesses; w++) {
                // the DRAW is made for one that may not speak, too
                if (now.draw(100) < q && maySpeak(w)) {
                    hear(w);
                    spoke++;
                }
            }
            endDay();
            return spoke;
        }

        private void look(int s) {
            if (goesOn(s) && now.whole[s] >= court.goalOf(s) && isCarried(s)) {
                now.end(s, WON);
            }
        }

        /** Whether what a SUIT HANGS on, if anything, IS WON. */
        private boolean isCarried(int s) {
            if (!court.hasSuit(s)) {
                return false;
            }
            int other = court.hangs[s];
            return !court.hasSuit(other) || now.course[other] == WON;
        }
    }

    /**
     * CALLED: of a SUIT's WITNESSES (its own i is the place among them) the best by days. Sums are told as
     * they would be had nothing been halved since the first day: a FRESH weight on day j counts 2 to the j as
     * much, and all of it is halved k times at once. What now lies behind the point never matters for whole
     * THIRDS, as only whole ones are added.
     */
    private static final class Called {
        private static final long IMPOSSIBLE = -1;
        private final Trial trial;
        private final int[] members = new int[WITNESSES_OF_SUIT];
        private final long[][] worth = new long[WITNESSES_OF_SUIT][CALL_DAYS];
        private final int[] room = new int[CALL_DAYS];
        private final long[] best = new long[PLANS];
        private final long[] together = new long[PLANS];
        private final boolean[] wins = new boolean[PLANS];
        private final int[] planned = new int[WITNESSES_OF_SUIT];
        private int size;
        private int lastDay;
        private long start;
        private long goal;

        Called(Trial trial) {
            this.trial = trial;
        }

        int mostOn(int s, int k) {
            prepare(s);
            clearPlans();
            for (int day = 0; day <= k && day <= lastDay; day++) {
                callOn(day, allOfThem());
            }
            return (int) (greatest() >> k);
        }

        int soonestOf(int s) {
            if (!trial.goesOn(s)) {
                return NONE;
            }
            prepare(s);
            clearPlans();
            for (int day = 0; day <= lastDay; day++) {
                callOn(day, allOfThem());
                if (greatest() >= goal << day) {
                    return day;
                }
            }
            return NONE;
        }

        /** To be asked right behind soonestOf its SUIT, which answered k: the plans for k still stand then. */
        int plannedDayOf(int w, int k) {
            setDays(k, fewestSpeakers(k));
            for (int i = 0; i < size; i++) {
                if (members[i] == w) {
                    return planned[i];
                }
            }
            return NONE;
        }

        int fewestToStrike(int s) {
            prepare(s);
            findWins();
            if (wins[0]) {
                return NONE;
            }
            int fewest = allOfThem();
            for (int set = 0; set < allOfThem(); set++) {
                if (Integer.bitCount(set) < Integer.bitCount(fewest) && stopsAll(set)) {
                    fewest = set;
                }
            }
            return asWitnesses(fewest);
        }

        private void prepare(int s) {
            size = 0;
            for (int w = 0; w < trial.court.witnesses && w < WITNESSES; w++) {
                if (trial.court.suitOf[w] == s && size < WITNESSES_OF_SUIT) {
                    members[size] = w;
                    size++;
                }
            }
            int day = trial.now.day;
            lastDay = Math.min(CALL_DAYS - 1, LAST_DAY - day);
            for (int j = 0; j <= lastDay; j++) {
                room[j] = trial.roomOn(day + j);
                for (int i = 0; i < size; i++) {
                    boolean may = trial.mayBeCalled(members[i], day + j);
                    worth[i][j] = may ? (long) trial.freshOn(members[i], day + j) << j : IMPOSSIBLE;
                }
            }
            start = trial.court.hasSuit(s) ? trial.now.whole[s] : 0;
            goal = trial.court.goalOf(s);
        }

        private int allOfThem() {
            return (1 << size) - 1;
        }

        private void clearPlans() {
            Arrays.fill(best, IMPOSSIBLE);
            best[0] = 0;
        }

        /** Greater SETS are met first, so what they build on has not heard anybody on this day yet. */
        private void callOn(int day, int among) {
            int able = addUp(day);
            for (int set = among; set > 0; set = (set - 1) & among) {
                for (int speakers = set & able; speakers > 0; speakers = (speakers - 1) & set & able) {
                    long ahead = best[set & ~speakers];
                    if (ahead >= 0 && Integer.bitCount(speakers) <= room[day]) {
                        best[set] = Math.max(best[set], ahead + together[speakers]);
                    }
                }
            }
        }

        /** Of all SETS what they add on a day, for callOn: who may speak then. */
        private int addUp(int day) {
            int able = 0;
            together[0] = 0;
            for (int i = 0; i < size; i++) {
                int one = 1 << i;
                if (worth[i][day] >= 0) {
                    able |= one;
                }
                for (int set = 0; set < one; set++) {
                    together[set | one] = together[set] + worth[i][day];
                }
            }
            return room[day] > 0 ? able : 0;
        }

        private long greatest() {
            long most = 0;
            for (int set = 0; set <= allOfThem(); set++) {
                most = Math.max(most, best[set]);
            }
            return start + most;
        }

        private boolean suffices(long sum, int k) {
            return start + sum >= goal << k;
        }

        private int fewestSpeakers(int k) {
            int fewest = NONE;
            for (int set = 0; set <= allOfThem(); set++) {
                boolean fewer = fewest == NONE || Integer.bitCount(set) < Integer.bitCount(fewest);
                if (fewer && best[set] >= 0 && suffices(best[set], k)) {
                    fewest = set;
                }
            }
            return Math.max(0, fewest);
        }

        /** One by one, each as late as the others can still make up for. */
        private void setDays(int k, int speakers) {
            long sum = 0;
            int others = speakers;
            for (int i = 0; i < size; i++) {
                planned[i] = NONE;
                if ((speakers >> i & 1) == 0) {
                    continue;
                }
                others &= ~(1 << i);
                for (int day = k; day >= 0 && planned[i] == NONE; day--) {
                    if (worth[i][day] >= 0 && room[day] > 0 && othersMakeUp(k, day, others, sum + worth[i][day])) {
                        planned[i] = day;
                        sum += worth[i][day];
                        room[day]--;
                    }
                }
            }
        }

        private boolean othersMakeUp(int k, int taken, int others, long sum) {
            clearPlans();
            room[taken]--;
            for (int day = 0; day <= k; day++) {
                callOn(day, others);
            }
            room[taken]++;
            return best[others] >= 0 && suffices(sum + best[others], k);
        }

        private void findWins() {
            clearPlans();
            for (int set = 0; set < PLANS; set++) {
                wins[set] = false;
            }
            for (int day = 0; day <= lastDay; day++) {
                callOn(day, allOfThem());
                for (int set = 0; set <= allOfThem(); set++) {
                    if (best[set] >= 0 && suffices(best[set], day)) {
                        wins[set] = true;
                    }
                }
            }
        }

        private boolean stopsAll(int struck) {
            for (int set = 0; set <= allOfThem(); set++) {
                if (wins[set] && (set & struck) == 0) {
                    return false;
                }
            }
            return true;
        }

        private int asWitnesses(int set) {
            int witnesses = 0;
            for (int i = 0; i < size; i++) {
                if ((set >> i & 1) == 1) {
                    witnesses |= 1 << members[i];
                }
            }
            return witnesses;
        }
    }

    /** IN TURN. A pool is the SET of those who were neither called nor STRUCK yet. */
    private static final class Duel {
        private static final int MOST_TURNS = 6;
        private final Trial trial;
        private final int[] fresh = new int[WITNESSES];
        private int pool;
        private int start;
        private int goal;

        Duel(Trial trial) {
            this.trial = trial;
        }

        void prepare(int s) {
            pool = 0;
            for (int w = 0; w < trial.court.witnesses && w < WITNESSES; w++) {
                fresh[w] = trial.freshOn(w, trial.now.day);
                if (trial.court.suitOf[w] == s && trial.mayBeCalled(w, trial.now.day)) {
                    pool |= 1 << w;
                }
            }
            start = trial.court.hasSuit(s) ? trial.now.whole[s] : 0;
            goal = trial.court.goalOf(s);
        }

        boolean isWon() {
            return sideWins(pool, start, 0);
        }

        int bestCall() {
            for (int w = 0; w < WITNESSES; w++) {
                if (has(pool, w) && winsByCalling(w, pool, start, 0)) {
                    return w;
                }
            }
            return NONE;
        }

        private boolean sideWins(int left, int whole, int turn) {
            if (whole >= goal) {
                return true;
            }
            if (turn > MOST_TURNS) {
                return false;
            }
            for (int w = 0; w < WITNESSES; w++) {
                if (has(left, w) && winsByCalling(w, left, whole, turn)) {
                    return true;
                }
            }
            return false;
        }

        private boolean winsByCalling(int called, int left, int whole, int turn) {
            int heard = whole + fresh[called];
            if (heard >= goal) {
                return true;
            }
            int others = left & ~(1 << called);
            if (others == 0) {
                return false;
            }
            for (int w = 0; w < WITNESSES; w++) {
                // the part behind the point may be dropped: only whole THIRDS are added to it
                if (has(others, w) && !sideWins(others & ~(1 << w), heard / 2, turn + 1)) {
                    return false;
                }
            }
            return true;
        }

        private static boolean has(int set, int w) {
            return (set >> w & 1) == 1;
        }
    }

    /** MANY: how SUITS share those who may still speak today. */
    private static final class Today {
        private static final int NEVER = 1000;
        private final Trial trial;
        private final int[] speakers = new int[SUITS];

        Today(Trial trial) {
            this.trial = trial;
        }

        /**
         * A SUIT that has enough took as many speakers as it takes alone, whatever its order; and SUITS that fit
         * together all have enough if they come first. So SETS that fit stand for all orders.
         */
        int winnableTogether() {
            int suits = Math.min(SUITS, trial.court.suits);
            int room = trial.roomOn(trial.now.day);
            for (int s = 0; s < suits; s++) {
                speakers[s] = speakersNeeded(s);
            }
            int chosen = 0;
            for (int set = 0; set < 1 << suits; set++) {
                if (Integer.bitCount(set) > Integer.bitCount(chosen) && speakersOf(set) <= room) {
                    chosen = set;
                }
            }
            return chosen;
        }

        private int speakersOf(int set) {
            int sum = 0;
            for (int s = 0; s < SUITS; s++) {
                if ((set >> s & 1) == 1) {
                    sum += speakers[s];
                }
            }
            return sum;
        }

        private int speakersNeeded(int s) {
            if (!trial.goesOn(s)) {
                return NEVER;
            }
            int day = trial.now.day;
            int goal = trial.court.goalOf(s);
            int whole = trial.now.whole[s];
            int count = 0;
            for (int w = 0; w < trial.court.witnesses && w < WITNESSES && whole < goal; w++) {
                if (trial.court.suitOf[w] == s && trial.mayBeCalled(w, day)) {
                    whole += trial.freshOn(w, day);
                    count++;
                }
            }
            return whole >= goal ? count : NEVER;
        }
    }

    /** THE BOOKS, told by hand. */
    private static final class Books {
        final int[] evenings = new int[SUITS];
        private final int[][] thirds = new int[SUITS][BOOK_EVENINGS];

        void tearAll() {
            Arrays.fill(evenings, 0);
        }

        int append(int s, int told) {
            if (s < 0 || s >= SUITS || evenings[s] < 0 || evenings[s] >= BOOK_EVENINGS) {
                return FULL;
            }
            thirds[s][evenings[s]] = told;
            evenings[s]++;
            return evenings[s];
        }

        int firstWrong(int s, State now) {
            if (s < 0 || s >= SUITS) {
                return NONE;
            }
            for (int day = 0; day < evenings[s] && day < BOOK_EVENINGS && day < now.day; day++) {
                if (thirds[s][day] != now.atDusk[s][day]) {
                    return day;
                }
            }
            return NONE;
        }
    }
}
