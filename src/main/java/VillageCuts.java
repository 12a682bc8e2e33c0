import java.util.Arrays;

/**
 * What can have been at once: villages in each of which one thing happens behind another, letters that are sent and
 * got between them, cuts and runs that can have been. The promises stand in DOC.md; they name the words used here.
 */
public final class VillageCuts {
    public static final int UNKNOWN = -1, OUTSIDE = -2, STATE = -3, FULL = -4, NONE = -9;
    public static final long LOST = Long.MIN_VALUE;

    private static final int NULL = 1, CAST = 2, INDEX = 3, SIZE = 4;
    private static final int VALUE = 0, SENT = 1, GOT = 2;
    private static final int PLAIN = 0, BROAD = 1, DOUBLE = 2, KINDS = 3;
    private static final int LEAST_VILLAGES = 2, MOST_VILLAGES = 4, MOST_THINGS = 5, LETTERS = 8;
    private static final int SHEETS = 4, LANES = 3, MOST_CELLS = 60;
    private static final int MOST_READINGS = 8, MOST_ACTS = 20, MOST_SUM = 99;
    private static final int OF_VILLAGE = 10;

    private final Sheet[] sheets = new Sheet[SHEETS];
    private final Trace footprints = new Trace();
    private final int[] toldCut = new int[MOST_VILLAGES];
    private final int[] work = new int[MOST_VILLAGES];
    private final int[][] readingCuts = new int[MOST_READINGS][MOST_VILLAGES];
    private final int[] readingSums = new int[MOST_READINGS];
    private int readings;
    private int lastFault;
    private Land country = new Land();
    private final Survey survey = new Survey();
    /** Apart from the survey's making: many lands are never surveyed. */
    private boolean isSurveyed;

    public VillageCuts() {
        for (int k = 0; k < SHEETS; k++) {
            sheets[k] = new Sheet();
        }
    }

    // ---- 1 the land

    public int land(int sheet, int lane, int i, int n) {
        lastFault = 0;
        if (!isSheet(sheet)) {
            return UNKNOWN;
        }
        if (!isLane(lane)) {
            return OUTSIDE;
        }
        int wrong = sheets[sheet].faultOfTaking(lane, i, n);
        if (wrong != 0) {
            return fallen(wrong);
        }
        Land found = new Land();
        Text text = new Text(sheets[sheet], i, n);
        if (!text.isReadInto(found)) {
            return -100 - text.place;
        }
        int amiss = found.leastAmiss();
        if (amiss != NONE) {
            return -200 - amiss;
        }
        if (!found.isOrdered()) {
            return -300;
        }
        country = found;
        isSurveyed = false;
        readings = 0;
        return country.size;
    }

    public int ofVillage(int v, int what) {
        if (!country.hasVillage(v)) {
            return UNKNOWN;
        }
        Plain village = country.villages[v];
        int happened = country.done[v];
        switch (what) {
            case 0:
                return village.kind;
            case 1:
                return village.things;
            case 2:
                return happened;
            case 3:
                return village.valueAt(happened);
            case 4:
                return village.worthAt(happened);
            case 5:
                return country.goesOn(country.done, v) ? 1 : 0;
            default:
                return OUTSIDE;
        }
    }

    public int thing(int v, int t, int what) {
        if (!country.hasThing(v, t)) {
            return UNKNOWN;
        }
        if (what < 0 || what > 2 && !isOfVillage(what)) {
            return OUTSIDE;
        }
        Plain village = country.villages[v];
        if (what == 0) {
            return village.what[t];
        }
        if (what == 1) {
            return village.digit[t];
        }
        if (what == 2) {
            return village.needInAll(t);
        }
        return country.hasVillage(what - OF_VILLAGE) ? village.need[t][what - OF_VILLAGE] : NONE;
    }

    public int ahead(int v, int t, int u, int other) {
        if (!country.hasThing(v, t) || !country.hasThing(u, other)) {
            return UNKNOWN;
        }
        if (v == u && t == other) {
            return 0;
        }
        if (country.isAhead(v, t, u, other)) {
            return 1;
        }
        return country.isAhead(u, other, v, t) ? 2 : 3;
    }

    // ---- 2 cuts

    public int happen(int v) {
        if (!country.hasVillage(v)) {
            return UNKNOWN;
        }
        if (!country.goesOn(country.done, v)) {
            return STATE;
        }
        int which = country.done[v];
        country.done[v] = which + 1;
        return which;
    }

    public int anew() {
        if (country.size == 0) {
            return STATE;
        }
        int had = country.thingsIn(country.done);
        Arrays.fill(country.done, 0);
        return had;
    }

    public int cut(int sheet, int lane, int i, int what) {
        int refusal = takeCut(sheet, lane, i, isQuestion(what));
        if (refusal != 0) {
            return refusal;
        }
        switch (what) {
            case 0:
                return country.canBe(toldCut) ? 1 : 0;
            case 1:
                return country.sumOf(toldCut);
            case 2:
                return country.underWay(toldCut);
            case 3:
                country.close(toldCut, work);
                return country.thingsIn(work);
            default:
                country.close(toldCut, work);
                return countOf(work, what - OF_VILLAGE);
        }
    }

    public int now(int what) {
        if (what < 0 || what > 2) {
            return OUTSIDE;
        }
        if (country.size == 0) {
            return STATE;
        }
        if (what == 0) {
            return country.sumOf(country.done);
        }
        return what == 1 ? country.underWay(country.done) : country.thatGoOn(country.done);
    }

    public int tale(int sheet, int lane, int i, int n, int what) {
        lastFault = 0;
        if (!isSheet(sheet)) {
            return UNKNOWN;
        }
        if (!isLane(lane) || n < 0 || n > MOST_ACTS || !isQuestion(what)) {
            return OUTSIDE;
        }
        Sheet acts = sheets[sheet];
        int wrong = acts.faultOfTaking(lane, i, n);
        if (wrong != 0) {
            return fallen(wrong);
        }
        if (country.size == 0) {
            return STATE;
        }
        for (int act = 0; act < n; act++) {
            if (!country.hasVillage(acts.cells[i + act])) {
                return UNKNOWN;
            }
        }
        return endOfTale(acts, i, n, what);
    }

    // ---- 3 all cuts, all runs

    public int cuts() {
        return country.size == 0 ? STATE : surveyed().cutsFrom(0);
    }

    public long runs() {
        return country.size == 0 ? LOST : surveyed().runsInAll();
    }

    public int first(int k) {
        if (k < -1 || k >= MOST_ACTS) {
            return OUTSIDE;
        }
        if (country.size == 0) {
            return STATE;
        }
        if (k == -1) {
            return country.things;
        }
        return k < country.things ? country.firstRun[k] : NONE;
    }

    public int some(int v) {
        if (!isSum(v)) {
            return OUTSIDE;
        }
        return country.size == 0 ? STATE : surveyed().fewestOf(v);
    }

    public int every(int v) {
        if (!isSum(v)) {
            return OUTSIDE;
        }
        if (country.size == 0) {
            return STATE;
        }
        return surveyed().canGoAround(v) ? 0 : 1;
    }

    // ---- 4 what there was

    public int reading(int sheet, int lane, int i, int sum) {
        int refusal = takeCut(sheet, lane, i, isSum(sum));
        if (refusal != 0) {
            return refusal;
        }
        if (readings >= MOST_READINGS) {
            return FULL;
        }
        int number = readings;
        System.arraycopy(toldCut, 0, readingCuts[number], 0, MOST_VILLAGES);
        readingSums[number] = sum;
        readings = number + 1;
        return number;
    }

    public int back(int n) {
        if (n < 0 || n > readings) {
            return OUTSIDE;
        }
        readings -= n;
        return readings;
    }

    public int kinds(int v) {
        if (!country.hasVillage(v)) {
            return UNKNOWN;
        }
        int set = 0;
        for (int kind = 0; kind < KINDS; kind++) {
            if (areReadingsSo(v, kind)) {
                set |= 1 << kind;
            }
        }
        return set;
    }

    public long odds(int v, int which) {
        if (!isSum(v) || which < 0 || which > 1 || country.size == 0) {
            return LOST;
        }
        int upper = surveyed().cutsFrom(v);
        int lower = surveyed().cutsFrom(0);
        int common = commonDivisor(upper, lower);
        if (common == 0) {
            return LOST;
        }
        return which == 0 ? upper / common : lower / common;
    }

    // ---- 5 sheets, parts

    public int sheet(int k, int lane, int n) {
        lastFault = 0;
        if (!isSheet(k)) {
            return UNKNOWN;
        }
        if (!isLane(lane) || n > MOST_CELLS) {
            return OUTSIDE;
        }
        if (n < 0) {
            return fallen(SIZE);
        }
        sheets[k].renew(lane, n);
        return 1;
    }

    public int lose(int k) {
        if (!isSheet(k)) {
            return UNKNOWN;
        }
        int had = sheets[k].hasRow ? 1 : 0;
        sheets[k].hasRow = false;
        return had;
    }

    public int put(int k, int i, int v) {
        lastFault = 0;
        if (!isSheet(k)) {
            return UNKNOWN;
        }
        if (!sheets[k].hasRow) {
            return fallen(NULL);
        }
        if (!sheets[k].hasCells(i, 1)) {
            return fallen(INDEX);
        }
        sheets[k].write(i, v);
        return 1;
    }

    public long cell(int k, int i, int lane) {
        lastFault = 0;
        if (!isSheet(k) || !isLane(lane)) {
            return LOST;
        }
        lastFault = sheets[k].faultOfTaking(lane, i, 1);
        return lastFault == 0 ? sheets[k].cells[i] : LOST;
    }

    public int copy(int k, int i, int other, int j, int n) {
        lastFault = 0;
        if (!isSheet(k) || !isSheet(other)) {
            return UNKNOWN;
        }
        Sheet from = sheets[k];
        Sheet to = sheets[other];
        if (!from.hasRow || !to.hasRow) {
            return fallen(NULL);
        }
        if (from.lane != to.lane) {
            return fallen(CAST);
        }
        if (!from.hasCells(i, n) || !to.hasCells(j, n)) {
            return fallen(INDEX);
        }
        System.arraycopy(from.cells, i, to.cells, j, n);
        return n;
    }

    public int tell(int v) {
        if (!country.hasVillage(v)) {
            return UNKNOWN;
        }
        Plain village = country.villages[v];
        return village.toldOf(footprints, village.valueAt(country.done[v]));
    }

    public int ring(int v) {
        if (!country.hasVillage(v)) {
            return UNKNOWN;
        }
        return country.villages[v].rungAt(footprints, country.done[v]);
    }

    public int as(int v, int kind) {
        lastFault = 0;
        if (!country.hasVillage(v)) {
            return UNKNOWN;
        }
        if (kind < 0 || kind >= KINDS) {
            return OUTSIDE;
        }
        return isOfKind(country.villages[v], kind) ? 1 : fallen(CAST);
    }

    public int trace() {
        return footprints.mark;
    }

    public int fault() {
        return lastFault;
    }

    public int many(int what) {
        switch (what) {
            case 0:
                return country.size;
            case 1:
                return country.things;
            case 2:
                return country.thingsIn(country.done);
            case 3:
                return country.lettersSent();
            case 4:
                return readings;
            default:
                return OUTSIDE;
        }
    }

    // ---- what the calls share

    private static boolean isSheet(int k) {
        return k >= 0 && k < SHEETS;
    }

    private static boolean isLane(int lane) {
        return lane >= 0 && lane < LANES;
    }

    private static boolean isSum(int v) {
        return v >= 0 && v <= MOST_SUM;
    }

    private static boolean isOfVillage(int what) {
        return what >= OF_VILLAGE && what < OF_VILLAGE + MOST_VILLAGES;
    }

    private static boolean isQuestion(int what) {
        return what >= 0 && what <= 3 || isOfVillage(what);
    }

    private static boolean isOfKind(Plain village, int kind) {
        if (kind == DOUBLE) {
            return village instanceof Doubled;
        }
        return kind == PLAIN || village instanceof Broad;
    }

    private int fallen(int which) {
        lastFault = which;
        return -10 - which;
    }

    private int countOf(int[] counts, int v) {
        return country.hasVillage(v) ? counts[v] : NONE;
    }

    /** Takes a cut that is told into toldCut: 0, or what is to be answered in its place. */
    private int takeCut(int sheet, int lane, int i, boolean isRestAsTold) {
        lastFault = 0;
        if (country.size == 0) {
            return STATE;
        }
        if (!isSheet(sheet)) {
            return UNKNOWN;
        }
        if (!isLane(lane) || !isRestAsTold) {
            return OUTSIDE;
        }
        int wrong = sheets[sheet].faultOfTaking(lane, i, country.size);
        if (wrong != 0) {
            return fallen(wrong);
        }
        for (int v = 0; v < country.size; v++) {
            int count = sheets[sheet].cells[i + v];
            if (count < 0 || count > country.villages[v].things) {
                return OUTSIDE;
            }
            toldCut[v] = count;
        }
        return 0;
    }

    private int endOfTale(Sheet acts, int i, int n, int what) {
        System.arraycopy(country.done, 0, work, 0, MOST_VILLAGES);
        int greatest = country.sumOf(work);
        for (int act = 0; act < n; act++) {
            int v = acts.cells[i + act];
            if (!country.goesOn(work, v)) {
                return what == 1 ? act : -100 - act;
            }
            work[v]++;
            greatest = Math.max(greatest, country.sumOf(work));
        }
        switch (what) {
            case 0:
                return country.sumOf(work);
            case 1:
                return NONE;
            case 2:
                return country.underWay(work);
            case 3:
                return greatest;
            default:
                return countOf(work, what - OF_VILLAGE);
        }
    }

    private Survey surveyed() {
        if (!isSurveyed) {
            survey.walk(country);
            isSurveyed = true;
        }
        return survey;
    }

    /** Whether all readings are so, if that village alone were of another kind. */
    private boolean areReadingsSo(int v, int kind) {
        Plain village = country.villages[v];
        for (int r = 0; r < readings; r++) {
            int[] counts = readingCuts[r];
            int others = country.sumOf(counts) - village.worthAt(counts[v]);
            if (others + Plain.worthAs(kind, village.valueAt(counts[v])) != readingSums[r]) {
                return false;
            }
        }
        return true;
    }

    private static int commonDivisor(int one, int other) {
        int greater = one;
        int less = other;
        for (int step = 0; step < 64 && less != 0; step++) {
            int rest = greater % less;
            greater = less;
            less = rest;
        }
        return greater;
    }

    /** A row of a lane, or nothing; its cells are made once and used again by each new row. */
    private static final class Sheet {
        final int[] cells = new int[MOST_CELLS];
        boolean hasRow;
        int lane;
        int length;

        void renew(int newLane, int n) {
            Arrays.fill(cells, 0);
            hasRow = true;
            lane = newLane;
            length = n;
        }

        void write(int i, int v) {
            if (lane == 0) {
                cells[i] = (byte) v;
            } else if (lane == 1) {
                cells[i] = (short) v;
            } else {
                cells[i] = v;
            }
        }

        /** Written so that no sum of i and n can wrap. */
        boolean hasCells(int i, int n) {
            return i >= 0 && i <= length && n >= 0 && n <= length - i;
        }

        int faultOfTaking(int asLane, int i, int n) {
            if (!hasRow) {
                return NULL;
            }
            if (lane != asLane) {
                return CAST;
            }
            if (n < 0) {
                return SIZE;
            }
            return hasCells(i, n) ? 0 : INDEX;
        }
    }

    /** The reader of a text: where it stops without being through, there the first fault is. */
    private static final class Text {
        private static final int NO_CODE = -1;

        private final Sheet sheet;
        private final int from;
        private final int length;
        int place;

        Text(Sheet sheet, int from, int length) {
            this.sheet = sheet;
            this.from = from;
            this.length = length;
        }

        boolean isReadInto(Land land) {
            if (code() != 'v') {
                return false;
            }
            place++;
            for (int v = 0; v < MOST_VILLAGES && place < length; v++) {
                if (!isVillageRead(land)) {
                    return false;
                }
            }
            return land.size >= LEAST_VILLAGES && place == length;
        }

        private boolean isVillageRead(Land land) {
            if (code() != ';') {
                return false;
            }
            place++;
            int kind = kindOf(code());
            if (kind == NONE) {
                return false;
            }
            place++;
            land.settle(kind);
            int things = 0;
            while (things < MOST_THINGS && whatOf(code()) != NONE) {
                int what = whatOf(code());
                place++;
                if (code() < '0' || code() > greatestDigit(what)) {
                    return false;
                }
                land.addThing(what, code() - '0');
                place++;
                things++;
            }
            return things > 0;
        }

        private int code() {
            return place < length ? sheet.cells[from + place] : NO_CODE;
        }

        private static int kindOf(int code) {
            switch (code) {
                case 'p':
                    return PLAIN;
                case 'b':
                    return BROAD;
                case 'd':
                    return DOUBLE;
                default:
                    return NONE;
            }
        }

        private static int whatOf(int code) {
            switch (code) {
                case 'i':
                    return VALUE;
                case 's':
                    return SENT;
                case 'g':
                    return GOT;
                default:
                    return NONE;
            }
        }

        private static int greatestDigit(int what) {
            return what == VALUE ? '9' : '0' + LETTERS - 1;
        }
    }

    /** A letter: how often it is sent and got, and by which thing of which village. */
    private static final class Letter {
        int sent, sender, sentAs;
        int got, getter, gotAs;

        boolean isAmiss() {
            return sent > 1 || got > 1 || got == 1 && (sent == 0 || sender == getter);
        }

        boolean isSentIn(int[] counts) {
            return sent > 0 && counts[sender] > sentAs;
        }

        boolean isGotIn(int[] counts) {
            return got > 0 && counts[getter] > gotAs;
        }
    }

    /** What the bodies leave behind as they begin. */
    private static final class Trace {
        int mark;

        void leave(int body) {
            mark = 31 * mark + body;
        }
    }

    /** A village of the plain kind, and what the other kinds have of it. */
    private static class Plain {
        final int kind;
        final int[] what = new int[MOST_THINGS];
        final int[] digit = new int[MOST_THINGS];
        /** Of a thing, how many things of each village are ahead of it: those are always its first ones. */
        final int[][] need = new int[MOST_THINGS][MOST_VILLAGES];
        /** The value behind that many things, so that no sum has to go through them again. */
        final int[] values = new int[MOST_THINGS + 1];
        int things;

        Plain(int kind) {
            this.kind = kind;
        }

        final void add(int newWhat, int newDigit) {
            if (things >= MOST_THINGS) {
                return;
            }
            what[things] = newWhat;
            digit[things] = newDigit;
            values[things + 1] = newWhat == VALUE ? newDigit : values[things];
            things++;
        }

        final int valueAt(int count) {
            return values[Math.max(0, Math.min(count, things))];
        }

        static int worthAs(int kind, int value) {
            if (kind == DOUBLE) {
                return 2 * value;
            }
            return kind == BROAD ? value + 1 : value;
        }

        final int worthAt(int count) {
            return worthAs(kind, valueAt(count));
        }

        final int needInAll(int t) {
            int all = 0;
            for (int u = 0; u < MOST_VILLAGES; u++) {
                all += need[t][u];
            }
            return all;
        }

        /** Apart from toldOf, so that a double one can come to it past the broad one's. */
        final int toldPlainly(Trace trace, int value) {
            trace.leave(1);
            return value;
        }

        int toldOf(Trace trace, int value) {
            return toldPlainly(trace, value);
        }

        int rungAt(Trace trace, int happened) {
            trace.leave(4);
            return happened;
        }
    }

    private static class Broad extends Plain {
        Broad(int kind) {
            super(kind);
        }

        int toldOf(Trace trace, int value) {
            trace.leave(2);
            return super.toldOf(trace, value) + 100;
        }
    }

    private static final class Doubled extends Broad {
        Doubled() {
            super(DOUBLE);
        }

        int toldOf(Trace trace, int value) {
            trace.leave(3);
            int broadly = super.toldOf(trace, value);
            return broadly + toldPlainly(trace, value);
        }

        int rungAt(Trace trace, int happened) {
            trace.leave(5);
            return 50;
        }
    }

    /** Villages, their things and letters, and what has happened; one without villages is none. */
    private static final class Land {
        final Plain[] villages = new Plain[MOST_VILLAGES];
        final Letter[] letters = new Letter[LETTERS];
        final int[] firstRun = new int[MOST_ACTS];
        /** What has happened, as a cut. */
        final int[] done = new int[MOST_VILLAGES];
        int size;
        int things;

        Land() {
            for (int k = 0; k < LETTERS; k++) {
                letters[k] = new Letter();
            }
        }

        boolean hasVillage(int v) {
            return v >= 0 && v < size;
        }

        boolean hasThing(int v, int t) {
            return hasVillage(v) && t >= 0 && t < villages[v].things;
        }

        void settle(int kind) {
            if (size >= MOST_VILLAGES) {
                return;
            }
            if (kind == DOUBLE) {
                villages[size] = new Doubled();
            } else {
                villages[size] = kind == BROAD ? new Broad(BROAD) : new Plain(PLAIN);
            }
            size++;
        }

        /** Adds a thing to the village that was settled last. */
        void addThing(int what, int digit) {
            if (size == 0 || villages[size - 1].things >= MOST_THINGS) {
                return;
            }
            Plain village = villages[size - 1];
            if (what != VALUE) {
                noteLetter(what, digit, village.things);
            }
            village.add(what, digit);
            things++;
        }

        private void noteLetter(int what, int number, int t) {
            if (number < 0 || number >= LETTERS) {
                return;
            }
            Letter letter = letters[number];
            if (what == SENT) {
                letter.sent++;
                letter.sender = size - 1;
                letter.sentAs = t;
            } else {
                letter.got++;
                letter.getter = size - 1;
                letter.gotAs = t;
            }
        }

        int leastAmiss() {
            for (int k = 0; k < LETTERS; k++) {
                if (letters[k].isAmiss()) {
                    return k;
                }
            }
            return NONE;
        }

        /** Finds the first run, and by it what is ahead of what; false: it gets stuck, as it is a circle. */
        boolean isOrdered() {
            int[] counts = new int[MOST_VILLAGES];
            for (int k = 0; k < things; k++) {
                int v = firstThatGoesOn(counts);
                if (v == NONE) {
                    return false;
                }
                firstRun[k] = v;
                noteNeed(v, counts[v]);
                counts[v]++;
            }
            return true;
        }

        private int firstThatGoesOn(int[] counts) {
            for (int v = 0; v < size; v++) {
                if (goesOn(counts, v)) {
                    return v;
                }
            }
            return NONE;
        }

        /** All that are ahead have their own noted already: things are come to in the order of a run. */
        private void noteNeed(int v, int t) {
            Plain village = villages[v];
            int[] need = village.need[t];
            if (t > 0) {
                System.arraycopy(village.need[t - 1], 0, need, 0, MOST_VILLAGES);
            }
            need[v] = t;
            if (village.what[t] == GOT) {
                Letter letter = letters[village.digit[t]];
                raise(need, villages[letter.sender].need[letter.sentAs]);
                need[letter.sender] = Math.max(need[letter.sender], letter.sentAs + 1);
            }
        }

        private static void raise(int[] counts, int[] least) {
            for (int u = 0; u < MOST_VILLAGES; u++) {
                counts[u] = Math.max(counts[u], least[u]);
            }
        }

        boolean isAhead(int v, int t, int u, int other) {
            return villages[u].need[other][v] > t;
        }

        /** Of a cut that can be: then the letter alone may be missing, all else that is ahead is in it. */
        boolean goesOn(int[] counts, int v) {
            Plain village = villages[v];
            int t = counts[v];
            if (t >= village.things) {
                return false;
            }
            return village.what[t] != GOT || letters[village.digit[t]].isSentIn(counts);
        }

        int thatGoOn(int[] counts) {
            int set = 0;
            for (int v = 0; v < size; v++) {
                if (goesOn(counts, v)) {
                    set |= 1 << v;
                }
            }
            return set;
        }

        /** The last thing of each village is enough: whatever is ahead of an earlier one is ahead of it. */
        void close(int[] counts, int[] closed) {
            System.arraycopy(counts, 0, closed, 0, MOST_VILLAGES);
            for (int v = 0; v < size; v++) {
                if (counts[v] > 0) {
                    raise(closed, villages[v].need[counts[v] - 1]);
                }
            }
        }

        boolean canBe(int[] counts) {
            for (int v = 0; v < size; v++) {
                for (int u = 0; u < size; u++) {
                    if (counts[v] > 0 && villages[v].need[counts[v] - 1][u] > counts[u]) {
                        return false;
                    }
                }
            }
            return true;
        }

        int sumOf(int[] counts) {
            int sum = 0;
            for (int v = 0; v < size; v++) {
                sum += villages[v].worthAt(counts[v]);
            }
            return sum;
        }

        int underWay(int[] counts) {
            int set = 0;
            for (int k = 0; k < LETTERS; k++) {
                if (letters[k].isSentIn(counts) && !letters[k].isGotIn(counts)) {
                    set |= 1 << k;
                }
            }
            return set;
        }

        int thingsIn(int[] counts) {
            int all = 0;
            for (int v = 0; v < size; v++) {
                all += counts[v];
            }
            return all;
        }

        int lettersSent() {
            int all = 0;
            for (int k = 0; k < LETTERS; k++) {
                if (letters[k].sent > 0) {
                    all++;
                }
            }
            return all;
        }
    }

    /**
     * All cuts of a land by their places: a place counts cuts through as an odometer, so that one thing more in a
     * village lies a fixed stride further on, and behind all cuts that are in it. Its rows are long enough for any
     * land and used again by the next one.
     */
    private static final class Survey {
        /** Of four villages of five things each: 6 times 6 times 6 times 6. */
        private static final int MOST_PLACES = 1296;

        private final int[] strides = new int[MOST_VILLAGES];
        private final int[] counts = new int[MOST_VILLAGES];
        /** In how many ways a cut is come to; 0: it can't be. */
        private final long[] ways = new long[MOST_PLACES];
        private final int[] sums = new int[MOST_PLACES];
        private final int[] sizes = new int[MOST_PLACES];
        /** The villages that go on there, as a set. */
        private final int[] onward = new int[MOST_PLACES];
        private final boolean[] reached = new boolean[MOST_PLACES];
        private int villages;
        private int places = 1;

        void walk(Land land) {
            measure(land);
            Arrays.fill(ways, 0);
            Arrays.fill(counts, 0);
            ways[0] = 1;
            for (int place = 0; place < places; place++) {
                if (ways[place] > 0) {
                    sums[place] = land.sumOf(counts);
                    sizes[place] = land.thingsIn(counts);
                    onward[place] = land.thatGoOn(counts);
                    passWays(place);
                }
                turn(land);
            }
        }

        private void measure(Land land) {
            villages = land.size;
            places = 1;
            for (int v = 0; v < villages; v++) {
                strides[v] = places;
                places = Math.min(MOST_PLACES, places * (land.villages[v].things + 1));
            }
        }

        private void passWays(int place) {
            for (int v = 0; v < villages; v++) {
                if (goesOnward(place, v)) {
                    ways[place + strides[v]] += ways[place];
                }
            }
        }

        private boolean goesOnward(int place, int v) {
            return (onward[place] & 1 << v) != 0 && place + strides[v] < places;
        }

        /** The next cut of the odometer. */
        private void turn(Land land) {
            for (int v = 0; v < villages; v++) {
                if (counts[v] < land.villages[v].things) {
                    counts[v]++;
                    return;
                }
                counts[v] = 0;
            }
        }

        /** How many cuts can be of that sum or more. */
        int cutsFrom(int sum) {
            int all = 0;
            for (int place = 0; place < places; place++) {
                if (ways[place] > 0 && sums[place] >= sum) {
                    all++;
                }
            }
            return all;
        }

        long runsInAll() {
            return ways[places - 1];
        }

        int fewestOf(int sum) {
            int fewest = NONE;
            for (int place = 0; place < places; place++) {
                if (ways[place] > 0 && sums[place] == sum && (fewest == NONE || sizes[place] < fewest)) {
                    fewest = sizes[place];
                }
            }
            return fewest;
        }

        /** Whether some run comes through no cut of that sum. */
        boolean canGoAround(int sum) {
            for (int place = 0; place < places; place++) {
                reached[place] = false;
            }
            reached[0] = sums[0] != sum;
            for (int place = 0; place < places; place++) {
                if (reached[place]) {
                    passAround(place, sum);
                }
            }
            return reached[places - 1];
        }

        private void passAround(int place, int sum) {
            for (int v = 0; v < villages; v++) {
                if (goesOnward(place, v) && sums[place + strides[v]] != sum) {
                    reached[place + strides[v]] = true;
                }
            }
        }
    }
}
