import java.util.Arrays;

/**
 * Ages of up to six people of whom only bounds are known, remarks about them as texts, and what
 * can be asked of all the ways in which it could be meant.
 */
public final class UncleAges {
    public static final int NONE = -1;

    private static final int PEOPLE = 6;
    private static final int REMARKS = 10;
    private static final int FORMS = 6;
    private static final int SETS_OF_REMARKS = 1024;
    private static final int OLDEST = 99;
    private static final int LAST_YEAR = 99;
    private static final int LIVES = 100;
    private static final int MOST_ROWS = 200000;
    private static final int FEW_ROWS = 2000;
    private static final int MOST_TAPE = 260;
    private static final int LONGEST_TEXT = 60;
    private static final int MOST_SAYINGS = 20;
    private static final int MOST_TYRES = 8;
    private static final int MOST_MILES = 2040;
    private static final int MOST_SUM = 400;
    private static final int NO_ROW = -2;
    private static final int TOO_MANY = -3;

    private final Told told;
    private final Told kept;
    private boolean anyKept;
    private final int[] tape;
    private int tapeMany;
    private final Reader reader;
    private final Rows rows;
    private final Fits fits;
    private final Few few;
    private final Shortest settler;
    private final Giving giving;
    private final Family family;
    private final Casks casks;
    private final int[] ageMany;
    private final long[] ways;

    public UncleAges() {
        told = new Told();
        kept = new Told();
        tape = new int[MOST_TAPE];
        reader = new Reader(tape);
        rows = new Rows(told);
        fits = new Fits();
        few = new Few();
        settler = new Shortest();
        giving = new Giving();
        family = new Family();
        casks = new Casks();
        ageMany = new int[OLDEST + 1];
        ways = new long[(PEOPLE + 1) * (MOST_SUM + 1)];
    }

    // ---- what is told ----

    public boolean person(int p, int low, int high) {
        if (p < 0 || p >= PEOPLE || low < 0 || high > OLDEST || low > high) {
            return false;
        }
        told.low[p] = low;
        told.high[p] = high;
        told.dead[p] = LIVES;
        told.people |= 1 << p;
        fits.forget();
        return true;
    }

    public boolean dies(int p, int year) {
        if (!told.hasPerson(p) || year < 0 || year > LIVES) {
            return false;
        }
        told.dead[p] = year;
        return true;
    }

    public int years(int n) {
        if (n < 1 || n > LAST_YEAR || told.year + n > LAST_YEAR) {
            return NONE;
        }
        told.year += n;
        return told.year;
    }

    public int feed(int a, int b, int c, int d, int e) {
        if (tapeMany > MOST_TAPE - 20) {
            return NONE;
        }
        putBytes(a);
        putBytes(b);
        putBytes(c);
        putBytes(d);
        putBytes(e);
        return tapeMany;
    }

    private void putBytes(int four) {
        for (int shift = 24; shift >= 0 && tapeMany < MOST_TAPE; shift -= 8) {
            tape[tapeMany] = four >> shift & 255;
            tapeMany++;
        }
    }

    public int remark(int k, int n) {
        if (k < 0 || k >= REMARKS || !isText(n, LONGEST_TEXT)) {
            return NONE;
        }
        return tell(k, n);
    }

    public int form(int k, int n) {
        if (k < 0 || k >= FORMS || !isText(n, LONGEST_TEXT)) {
            return NONE;
        }
        return tell(REMARKS + k, n);
    }

    private boolean isText(int n, int most) {
        return n >= 1 && n <= most && n <= tapeMany;
    }

    private int tell(int k, int n) {
        tapeMany = 0;
        boolean isRemark = k < REMARKS;
        if (!reader.read(n, told.people, isRemark)) {
            return -1000 * reader.fault - reader.place;
        }
        reader.writeTo(told.lines[k], told);
        told.said |= 1 << k;
        if (isRemark) {
            fits.forget();
        }
        return Integer.bitCount(reader.people);
    }

    public boolean takeBack(int k) {
        if (!told.hasRemark(k)) {
            return false;
        }
        told.said &= ~(1 << k);
        fits.forget();
        return true;
    }

    public boolean parent(int p, int child, int years) {
        if (!told.hasPerson(p) || !told.hasPerson(child) || p == child || years < NONE || years > OLDEST) {
            return false;
        }
        told.older[p * PEOPLE + child] = years;
        return true;
    }

    public int keep() {
        kept.become(told);
        anyKept = true;
        return Integer.bitCount(told.remarksSaid());
    }

    public boolean undo() {
        if (!anyKept) {
            return false;
        }
        told.become(kept);
        fits.forget();
        return true;
    }

    public int count(int what) {
        switch (what) {
            case 0:
                return told.year;
            case 1:
                return told.people;
            case 2:
                return told.remarksSaid();
            case 3:
                return told.said >> REMARKS;
            case 4:
                return tapeMany;
            default:
                return countOfPerson(what);
        }
    }

    private int countOfPerson(int what) {
        int p = what % 10;
        if (what < 10 || what > 39 || !told.hasPerson(p)) {
            return NONE;
        }
        if (what < 20) {
            return told.low[p];
        }
        if (what < 30) {
            return told.high[p];
        }
        return told.dead[p] == LIVES ? -2 : told.dead[p];
    }

    // ---- rows that fit ----

    private boolean areRemarks(int remarks) {
        return (remarks & ~told.remarksSaid()) == 0;
    }

    public int rows() {
        long all = told.allRows();
        return all > MOST_ROWS ? TOO_MANY : (int) all;
    }

    public int fit(int remarks, int what) {
        if (!areRemarks(remarks) || what != 100 && what != 101 && !told.hasPerson(what)) {
            return NONE;
        }
        if (what < PEOPLE) {
            int found = rows.seek(remarks);
            return found < 0 ? found : rows.age[what];
        }
        if (!fits.isCounted(rows)) {
            return TOO_MANY;
        }
        return what == 100 ? fits.of(remarks) : fits.allButOne(remarks);
    }

    /** How many rows fit, by the age of one person in ageMany; or TOO_MANY. */
    private int countAges(int remarks, int p) {
        if (!rows.start(remarks)) {
            return TOO_MANY;
        }
        Arrays.fill(ageMany, 0);
        int fitting = 0;
        for (int i = 0; i < MOST_ROWS && rows.next(); i++) {
            ageMany[rows.age[p]]++;
            fitting++;
        }
        return fitting;
    }

    public int ageIs(int remarks, int p, int what) {
        if (!areRemarks(remarks) || !told.hasPerson(p) || what < 0 || what > 2) {
            return NONE;
        }
        int fitting = countAges(remarks, p);
        if (fitting < 0) {
            return fitting;
        }
        if (what == 2) {
            return unlikeAges();
        }
        if (fitting == 0) {
            return NO_ROW;
        }
        return ageAt(what == 0 ? 0 : fitting - 1);
    }

    private int unlikeAges() {
        int unlike = 0;
        for (int age = 0; age <= OLDEST; age++) {
            if (ageMany[age] > 0) {
                unlike++;
            }
        }
        return unlike;
    }

    /** The age that stands at a place (0 on) when all in ageMany stand by age. */
    private int ageAt(int place) {
        int upTo = 0;
        for (int age = 0; age <= OLDEST; age++) {
            upTo += ageMany[age];
            if (upTo > place) {
                return age;
            }
        }
        return NO_ROW;
    }

    public int aged(int remarks, int p, int age) {
        if (!areRemarks(remarks) || !told.hasPerson(p) || age < 0 || age > OLDEST) {
            return NONE;
        }
        int fitting = countAges(remarks, p);
        return fitting < 0 ? fitting : ageMany[age];
    }

    public int middle(int remarks, int p) {
        if (!areRemarks(remarks) || !told.hasPerson(p)) {
            return NONE;
        }
        int fitting = countAges(remarks, p);
        if (fitting < 0) {
            return fitting;
        }
        return fitting == 0 ? NO_ROW : ageAt((fitting - 1) / 2);
    }

    public int apart(int remarks, int p, int q, int what) {
        if (!areRemarks(remarks) || !told.hasPerson(p) || !told.hasPerson(q) || p == q || what < 0 || what > 2) {
            return -400;
        }
        if (!rows.start(remarks)) {
            return -300;
        }
        int leastApart = 0;
        int mostApart = 0;
        int ofOneAge = 0;
        boolean any = false;
        for (int i = 0; i < MOST_ROWS && rows.next(); i++) {
            int apart = rows.age[p] - rows.age[q];
            leastApart = any ? Math.min(leastApart, apart) : apart;
            mostApart = any ? Math.max(mostApart, apart) : apart;
            ofOneAge += apart == 0 ? 1 : 0;
            any = true;
        }
        if (what == 2) {
            return ofOneAge;
        }
        if (!any) {
            return -200;
        }
        return what == 0 ? leastApart : mostApart;
    }

    public int offByAYear(int remarks, int what) {
        if (!areRemarks(remarks) || what < 0 || what > 1) {
            return NONE;
        }
        if (!rows.start(remarks)) {
            return TOO_MANY;
        }
        int best = NONE;
        for (int i = 0; i < MOST_ROWS && rows.move(); i++) {
            int off = rows.offByOne();
            if (off >= 0 && (best < 0 || isFewer(off, best))) {
                best = off;
            }
        }
        if (best < 0) {
            return NO_ROW;
        }
        return what == 0 ? Integer.bitCount(best) : best;
    }

    private static boolean isFewer(int bits, int others) {
        int many = Integer.bitCount(bits);
        int manyOthers = Integer.bitCount(others);
        return many < manyOthers || many == manyOthers && bits < others;
    }

    // ---- remarks against each other ----

    public int follows(int remarks, int what) {
        if (!areRemarks(remarks) || what < 0 || what > 1) {
            return NONE;
        }
        if (!fits.isCounted(rows)) {
            return TOO_MANY;
        }
        int due = what == 0 ? fits.of(remarks) : 0;
        int bits = 0;
        for (int k = 0; k < REMARKS; k++) {
            if (told.hasRemark(k) && fits.of(remarks | 1 << k) == due) {
                bits |= 1 << k;
            }
        }
        return bits;
    }

    public int clash(int remarks, int what) {
        if (!areRemarks(remarks) || what < 0 || what > 1) {
            return NONE;
        }
        if (!fits.isCounted(rows)) {
            return TOO_MANY;
        }
        if (fits.of(remarks) > 0) {
            return NO_ROW;
        }
        int best = remarks;
        for (int some = 0; some < SETS_OF_REMARKS; some++) {
            if ((some & ~remarks) == 0 && fits.of(some) == 0 && isFewer(some, best)) {
                best = some;
            }
        }
        return what == 0 ? Integer.bitCount(best) : best;
    }

    public int needless(int remarks) {
        if (!areRemarks(remarks)) {
            return NONE;
        }
        if (!fits.isCounted(rows)) {
            return TOO_MANY;
        }
        int bits = 0;
        for (int k = 0; k < REMARKS; k++) {
            int bit = 1 << k;
            if ((remarks & bit) != 0 && fits.of(remarks & ~bit) == fits.of(remarks)) {
                bits |= bit;
            }
        }
        return bits;
    }

    public int settles(int remarks) {
        if (!areRemarks(remarks)) {
            return NONE;
        }
        if (!fits.isCounted(rows)) {
            return TOO_MANY;
        }
        for (int k = 0; k < REMARKS; k++) {
            if (isOther(remarks, k) && fits.of(remarks | 1 << k) == 1) {
                return k;
            }
        }
        return NO_ROW;
    }

    private boolean isOther(int remarks, int k) {
        return told.hasRemark(k) && (remarks >> k & 1) == 0;
    }

    public int fewest(int remarks, int what) {
        if (!areRemarks(remarks) || what < 0 || what > 1) {
            return NONE;
        }
        if (!fits.isCounted(rows)) {
            return TOO_MANY;
        }
        int others = told.remarksSaid() & ~remarks;
        int best = NONE;
        for (int some = 0; some < SETS_OF_REMARKS; some++) {
            if ((some & ~others) == 0 && Integer.bitCount(some) <= 3 && fits.of(remarks | some) == 1
                    && (best < 0 || isFewer(some, best))) {
                best = some;
            }
        }
        if (best < 0) {
            return NO_ROW;
        }
        return what == 0 ? Integer.bitCount(best) : best;
    }

    public int asks(int remarks, int what) {
        if (!areRemarks(remarks) || what < 0 || what > 2) {
            return NONE;
        }
        if (!fits.isCounted(rows)) {
            return TOO_MANY;
        }
        int fitting = fits.of(remarks);
        int best = NO_ROW;
        int bestCost = 0;
        for (int k = 0; k < REMARKS && fitting > 0; k++) {
            int left = fits.of(remarks | 1 << k);
            if (isOther(remarks, k) && (what == 0 || left > 0)) {
                int cost = costOfAsking(what, left, fitting);
                if (best < 0 || cost < bestCost) {
                    best = k;
                    bestCost = cost;
                }
            }
        }
        return best;
    }

    private static int costOfAsking(int what, int left, int fitting) {
        if (what == 0) {
            return Math.abs(2 * left - fitting);
        }
        return what == 1 ? -left : left;
    }

    public int unlike(int remarks, int others) {
        if (!areRemarks(remarks) || !areRemarks(others)) {
            return NONE;
        }
        if (!fits.isCounted(rows)) {
            return TOO_MANY;
        }
        return fits.of(remarks) + fits.of(others) - 2 * fits.of(remarks | others);
    }

    // ---- hearing what a form tells ----

    public int known(int remarks, int k) {
        if (!areRemarks(remarks) || !told.hasForm(k)) {
            return NONE;
        }
        if (!few.gather(rows, remarks)) {
            return TOO_MANY;
        }
        few.hear(told.lines[REMARKS + k]);
        return few.alone();
    }

    public int often(int remarks, int k, int what) {
        if (!areRemarks(remarks) || !told.hasForm(k) || what < 0 || what > 2) {
            return NONE;
        }
        if (!few.gather(rows, remarks)) {
            return TOO_MANY;
        }
        few.hear(told.lines[REMARKS + k]);
        few.countNumbers();
        if (what == 0) {
            return few.numbers;
        }
        if (what == 1) {
            return few.times;
        }
        return few.many == 0 ? NO_ROW : few.number;
    }

    public int sayings(int remarks, int n, int what) {
        if (!areRemarks(remarks) || what != 100 && !told.hasPerson(what) || !isText(n, MOST_SAYINGS)) {
            return NONE;
        }
        tapeMany = 0;
        int fault = faultOfSayings(n);
        if (fault < 0) {
            return fault;
        }
        if (!few.gather(rows, remarks)) {
            return TOO_MANY;
        }
        for (int i = 0; i + 1 < n; i += 2) {
            int k = tape[i] - 'A';
            if (told.hasForm(k)) {
                few.hear(told.lines[REMARKS + k]);
                few.leave(tape[i + 1] == '+');
            }
        }
        if (what == 100) {
            return few.many;
        }
        return few.many == 0 ? NO_ROW : few.ages[what];
    }

    private int faultOfSayings(int n) {
        for (int i = 0; i < n && i < MOST_TAPE; i++) {
            int c = tape[i];
            boolean canStand = i % 2 == 0 ? c >= 'A' && c <= 'F' : c == '+' || c == '-';
            if (!canStand) {
                return -1000 - i;
            }
            if (i % 2 == 0 && !told.hasForm(c - 'A')) {
                return -7000 - i;
            }
        }
        return n % 2 == 0 ? 0 : -1000 - n;
    }

    public int between(int remarks, int k, int what) {
        if (!areRemarks(remarks) || !told.hasForm(k) || what < 0 || what > 1 || !rows.start(remarks)) {
            return 0;
        }
        Line form = told.lines[REMARKS + k];
        int best = 0;
        boolean any = false;
        for (int i = 0; i < MOST_ROWS && rows.next(); i++) {
            int tells = form.tells(rows.age);
            if (!any || (what == 0 ? tells < best : tells > best)) {
                best = tells;
            }
            any = true;
        }
        return best;
    }

    // ---- THE ROW ----

    public int worth(int remarks, int k) {
        if (!areRemarks(remarks) || !told.hasForm(k) || rows.seek(remarks) < 0) {
            return 0;
        }
        return told.lines[REMARKS + k].tells(rows.age);
    }

    public int isTrue(int remarks, int k, int what) {
        if (!areRemarks(remarks) || !told.hasRemark(k) || what < 0 || what > 2) {
            return -204;
        }
        int found = rows.seek(remarks);
        if (found < 0) {
            return found == TOO_MANY ? -203 : -201;
        }
        Line line = told.lines[k];
        if (what == 1) {
            return nearestTrue(line, 0, -1);
        }
        return what == 2 ? nearestTrue(line, 1, 1) : yearsTrue(line);
    }

    private int yearsTrue(Line line) {
        int many = 0;
        for (int year = -99; year <= 99; year++) {
            if (line.holds(line.tellsIn(rows.age, told.year + year))) {
                many++;
            }
        }
        return many;
    }

    private int nearestTrue(Line line, int from, int step) {
        for (int i = 0; i < 100; i++) {
            int year = from + i * step;
            if (year <= 99 && line.holds(line.tellsIn(rows.age, told.year + year))) {
                return year;
            }
        }
        return -200;
    }

    public int together(int remarks, int p, int others) {
        int many = Integer.bitCount(others);
        if (!areRemarks(remarks) || !told.hasPerson(p) || (others & ~told.people) != 0
                || (others >> p & 1) != 0 || many < 2 || many > 5) {
            return -4000;
        }
        int found = rows.seek(remarks);
        if (found < 0) {
            return found == TOO_MANY ? -3000 : -2000;
        }
        int ahead = rows.age[p] + told.year;
        for (int q = 0; q < PEOPLE; q++) {
            if ((others >> q & 1) != 0) {
                ahead -= rows.age[q] + told.year;
            }
        }
        int nearerEachYear = many - 1;
        if (nearerEachYear < 1 || ahead % nearerEachYear != 0) {
            return -1000;
        }
        return ahead / nearerEachYear;
    }

    public int turned(int remarks, int p, int q, int what) {
        if (!areRemarks(remarks) || !told.hasPerson(p) || !told.hasPerson(q) || p == q || what < 0 || what > 1) {
            return NONE;
        }
        int found = rows.seek(remarks);
        if (found < 0) {
            return found;
        }
        int many = 0;
        int next = -2;
        for (int year = 99; year >= 0; year--) {
            if (areTurned(rows.age[p] + told.year + year, rows.age[q] + told.year + year)) {
                many++;
                next = year;
            }
        }
        return what == 0 ? many : next;
    }

    private static boolean areTurned(int age, int other) {
        return age >= 10 && age <= 99 && other >= 10 && other <= 99 && other == age % 10 * 10 + age / 10;
    }

    public int squares(int remarks, int what) {
        if (!areRemarks(remarks) || what < 0 || what > 100) {
            return NONE;
        }
        int found = rows.seek(remarks);
        if (found < 0) {
            return found;
        }
        if (what < 100) {
            return squaresIn(told.year + what);
        }
        int best = 0;
        for (int year = 1; year < 100; year++) {
            if (squaresIn(told.year + year) > squaresIn(told.year + best)) {
                best = year;
            }
        }
        return best;
    }

    private int squaresIn(int year) {
        int many = 0;
        for (int p = 0; p < PEOPLE; p++) {
            if (told.hasPerson(p) && isSquare(rows.age[p] + year)) {
                many++;
            }
        }
        return many;
    }

    private static boolean isSquare(int age) {
        for (int root = 0; root <= OLDEST; root++) {
            if (root * root == age) {
                return true;
            }
        }
        return false;
    }

    public int when(int remarks, int p, int q, int age) {
        if (!areRemarks(remarks) || !told.hasPerson(p) || !told.hasPerson(q) || age < 0 || age > 199) {
            return -4000;
        }
        int found = rows.seek(remarks);
        if (found < 0) {
            return found == TOO_MANY ? -3000 : -1000;
        }
        return rows.age[p] - rows.age[q] + age;
    }

    public int check(int n) {
        if (n < 0 || n > PEOPLE || n > tapeMany) {
            return -2;
        }
        tapeMany = 0;
        if (rows.seek(told.remarksSaid()) < 0) {
            return -2;
        }
        for (int p = 0; p < n; p++) {
            int age = told.hasPerson(p) ? rows.age[p] : 0;
            if (tape[p] != age) {
                return p;
            }
        }
        return NONE;
    }

    public int shortest(int remarks, int what) {
        if (!areRemarks(remarks) || what < 0 || what > 4) {
            return NONE;
        }
        if (!few.gather(rows, remarks)) {
            return TOO_MANY;
        }
        if (few.many == 0 || !settler.find(few, told)) {
            return NO_ROW;
        }
        switch (what) {
            case 0:
                return settler.signs;
            case 1:
                return settler.sort;
            case 2:
                return settler.first;
            case 3:
                return settler.sort == 0 ? -2 : settler.second;
            default:
                return settler.number;
        }
    }

    // ---- by themselves ----

    public int whoIsWho(int n, int people, int remarks, int what) {
        if (!isText(n, PEOPLE) || n < 2 || (people & ~told.people) != 0 || Integer.bitCount(people) != n
                || !areRemarks(remarks) || what != 100 && !told.hasPerson(what)) {
            return NONE;
        }
        if (what != 100 && (people >> what & 1) == 0) {
            return NONE;
        }
        tapeMany = 0;
        if (hasAgeAbove(n) || !standAlone(people, remarks)) {
            return -3;
        }
        giving.giveAll(told, tape, people, remarks);
        if (what == 100) {
            return giving.ways;
        }
        return giving.ways == 0 ? -2 : giving.least[what];
    }

    private boolean hasAgeAbove(int n) {
        for (int i = 0; i < n && i < MOST_TAPE; i++) {
            if (tape[i] > OLDEST) {
                return true;
            }
        }
        return false;
    }

    private boolean standAlone(int people, int remarks) {
        for (int k = 0; k < REMARKS; k++) {
            if ((remarks >> k & 1) != 0 && (told.lines[k].people & ~people) != 0) {
                return false;
            }
        }
        return true;
    }

    public int tree(int p, int what) {
        if (!told.hasPerson(p) || what < 0 || what > 1) {
            return NONE;
        }
        if (!family.canBe(told)) {
            return -2;
        }
        return what == 0 ? family.low[p] : family.high[p];
    }

    public int tyres(int n, int needed) {
        if (!isText(n, MOST_TYRES) || needed < 1 || needed > MOST_TYRES) {
            return NONE;
        }
        tapeMany = 0;
        for (int i = 0; i < n && i < MOST_TAPE; i++) {
            if (tape[i] == 0) {
                return -2;
            }
        }
        if (n < needed) {
            return -3;
        }
        for (int miles = MOST_MILES; miles > 0; miles--) {
            if (milesInAll(n, miles) >= needed * miles) {
                return miles;
            }
        }
        return 0;
    }

    /** No tyre can be on for longer than the whole way. */
    private int milesInAll(int n, int way) {
        int miles = 0;
        for (int i = 0; i < n && i < MOST_TAPE; i++) {
            miles += Math.min(tape[i], way);
        }
        return miles;
    }

    public int butts(int much) {
        if (much < 0 || much > Casks.MOST || tapeMany < 6) {
            return NONE;
        }
        tapeMany = 0;
        return casks.fill(tape) ? casks.pour(much) : -3;
    }

    public long howOld(int n, int sum, int low, int high) {
        if (n < 1 || n > PEOPLE || sum < 0 || sum > MOST_SUM || low < 0 || high > OLDEST || low > high) {
            return NONE;
        }
        int wide = MOST_SUM + 1;
        Arrays.fill(ways, 0);
        ways[0] = 1;
        for (int age = low; age <= high; age++) {
            for (int many = 1; many <= n; many++) {
                for (int s = age; s <= sum; s++) {
                    ways[many * wide + s] += ways[(many - 1) * wide + s - age];
                }
            }
        }
        return ways[n * wide + sum];
    }

    public int plain(int k, int what) {
        if (!told.hasLine(k) || what < 0 || what > PEOPLE) {
            return 0;
        }
        Line line = told.lines[k];
        return what == PEOPLE ? line.besides : line.times[what];
    }

    public int remarkIs(int k, int what) {
        if (!told.hasLine(k)) {
            return NONE;
        }
        Line line = told.lines[k];
        if (what == 2) {
            return line.year;
        }
        if (what == 3) {
            return line.people;
        }
        if (k >= REMARKS || what < 0 || what > 1) {
            return NONE;
        }
        return what == 0 ? line.sign : line.divisor;
    }

    /** A remark or a form as a plain sum; of a remark, the right side is taken from the left one. */
    private static final class Line {
        static final int EQUAL = 0;
        static final int BELOW = 1;
        static final int ABOVE = 2;
        static final int DIVIDED = 3;

        final int[] times = new int[PEOPLE];
        int number;
        int besides;
        int sign;
        int divisor;
        int year;
        int people;

        void become(Line other) {
            System.arraycopy(other.times, 0, times, 0, PEOPLE);
            number = other.number;
            besides = other.besides;
            sign = other.sign;
            divisor = other.divisor;
            year = other.year;
            people = other.people;
        }

        /** By the ages in year 0, with what was added to them when it was said. */
        int tells(int[] ages) {
            int sum = besides;
            for (int p = 0; p < PEOPLE; p++) {
                sum += times[p] * ages[p];
            }
            return sum;
        }

        /** Said when all are so many years older. */
        int tellsIn(int[] ages, int later) {
            int sum = number;
            for (int p = 0; p < PEOPLE; p++) {
                sum += times[p] * (ages[p] + later);
            }
            return sum;
        }

        boolean holds(int value) {
            switch (sign) {
                case EQUAL:
                    return value == 0;
                case BELOW:
                    return value < 0;
                case ABOVE:
                    return value > 0;
                default:
                    return divisor != 0 && value % divisor == 0;
            }
        }
    }

    /** All that is kept and undone. */
    private static final class Told {
        final int[] low = new int[PEOPLE];
        final int[] high = new int[PEOPLE];
        final int[] dead = new int[PEOPLE];
        final int[] older = new int[PEOPLE * PEOPLE];
        /** The remarks, and behind them the forms. */
        final Line[] lines = new Line[REMARKS + FORMS];
        int people;
        int said;
        int year;

        Told() {
            Arrays.fill(older, NONE);
            Arrays.fill(dead, LIVES);
            for (int k = 0; k < REMARKS + FORMS; k++) {
                lines[k] = new Line();
            }
        }

        void become(Told other) {
            System.arraycopy(other.low, 0, low, 0, PEOPLE);
            System.arraycopy(other.high, 0, high, 0, PEOPLE);
            System.arraycopy(other.dead, 0, dead, 0, PEOPLE);
            System.arraycopy(other.older, 0, older, 0, PEOPLE * PEOPLE);
            for (int k = 0; k < REMARKS + FORMS; k++) {
                lines[k].become(other.lines[k]);
            }
            people = other.people;
            said = other.said;
            year = other.year;
        }

        boolean hasPerson(int p) {
            return p >= 0 && p < PEOPLE && (people >> p & 1) != 0;
        }

        boolean hasLine(int k) {
            return k >= 0 && k < REMARKS + FORMS && (said >> k & 1) != 0;
        }

        boolean hasRemark(int k) {
            return k < REMARKS && hasLine(k);
        }

        boolean hasForm(int k) {
            return k >= 0 && k < FORMS && hasLine(REMARKS + k);
        }

        int remarksSaid() {
            return said & SETS_OF_REMARKS - 1;
        }

        /** How many years one has lived since year 0; the dead stay at theirs. */
        int lived(int p) {
            return p >= 0 && p < PEOPLE ? Math.min(year, dead[p]) : year;
        }

        long allRows() {
            long all = 1;
            for (int p = 0; p < PEOPLE; p++) {
                if (hasPerson(p)) {
                    all *= high[p] - low[p] + 1;
                }
            }
            return all;
        }
    }

    /** Reads a text from the tape from the left on, up to the first fault. */
    private static final class Reader {
        static final int DEEPEST = 6;
        static final int NUMBER = PEOPLE;
        static final int SUM = PEOPLE + 1;
        static final int CANT_STAND = 1;
        static final int FOURTH_DIGIT = 2;
        static final int DIVIDED_BY_0 = 3;
        static final int TOO_DEEP = 5;
        static final int NOT_TOLD = 7;
        static final int SECOND_LETTER = 8;

        final int[] text;
        /** How many brackets are open is the row of each of these. */
        final int[][] sides = new int[DEEPEST + 1][SUM];
        final int[][] terms = new int[DEEPEST + 1][SUM];
        final int[][] factors = new int[DEEPEST + 1][SUM];
        final int[] sum = new int[SUM];
        int end;
        int at;
        int known;
        int letters;
        int numberRead;
        int people;
        int sign;
        int divisor;
        int fault;
        int place;

        Reader(int[] tape) {
            text = tape;
        }

        boolean read(int n, int told, boolean isRemark) {
            end = Math.min(n, text.length);
            known = told;
            at = 0;
            letters = 0;
            people = 0;
            sign = Line.EQUAL;
            divisor = 0;
            fault = 0;
            place = 0;
            if (!readSide(0)) {
                return false;
            }
            System.arraycopy(sides[0], 0, sum, 0, SUM);
            return (!isRemark || readSecondHalf()) && (at == end || fail(CANT_STAND, at));
        }

        void writeTo(Line line, Told told) {
            System.arraycopy(sum, 0, line.times, 0, PEOPLE);
            line.number = sum[NUMBER];
            line.besides = sum[NUMBER];
            for (int p = 0; p < PEOPLE; p++) {
                line.besides += sum[p] * told.lived(p);
            }
            line.sign = sign;
            line.divisor = divisor;
            line.year = told.year;
            line.people = people;
        }

        private boolean readSecondHalf() {
            int c = peek();
            if (c == '~') {
                sign = Line.DIVIDED;
                at++;
                return readDivisor();
            }
            if (c != '=' && c != '<' && c != '>') {
                return fail(CANT_STAND, at);
            }
            sign = c == '=' ? Line.EQUAL : c == '<' ? Line.BELOW : Line.ABOVE;
            at++;
            if (!readSide(0)) {
                return false;
            }
            add(sum, sides[0], -1);
            return true;
        }

        private boolean readDivisor() {
            int first = at;
            if (!readNumber()) {
                return false;
            }
            divisor = numberRead;
            return divisor != 0 || fail(DIVIDED_BY_0, first);
        }

        private boolean readSide(int depth) {
            if (depth > DEEPEST) {
                return fail(TOO_DEEP, at);
            }
            int[] side = sides[depth];
            Arrays.fill(side, 0);
            int plusOrMinus = 1;
            for (int i = 0; i <= LONGEST_TEXT; i++) {
                if (!readTerm(depth)) {
                    return false;
                }
                add(side, terms[depth], plusOrMinus);
                int c = peek();
                if (c != '+' && c != '-') {
                    return true;
                }
                plusOrMinus = c == '+' ? 1 : -1;
                at++;
            }
            return fail(CANT_STAND, at);
        }

        private boolean readTerm(int depth) {
            int[] term = terms[depth];
            Arrays.fill(term, 0);
            term[NUMBER] = 1;
            boolean hasLetter = false;
            int star = at;
            for (int i = 0; i <= LONGEST_TEXT; i++) {
                int lettersAhead = letters;
                if (!readFactor(depth)) {
                    return false;
                }
                boolean withLetter = letters > lettersAhead;
                if (hasLetter && withLetter) {
                    return fail(SECOND_LETTER, star);
                }
                multiply(term, factors[depth], withLetter);
                hasLetter = hasLetter || withLetter;
                if (peek() != '*') {
                    return true;
                }
                star = at;
                at++;
            }
            return fail(CANT_STAND, at);
        }

        private boolean readFactor(int depth) {
            int[] factor = factors[depth];
            int c = peek();
            if (c >= 'a' && c <= 'f') {
                return readPerson(depth);
            }
            if (c == '(') {
                if (!open(depth) || !readSide(depth + 1) || !pass(')')) {
                    return false;
                }
                System.arraycopy(sides[depth + 1], 0, factor, 0, SUM);
                return true;
            }
            Arrays.fill(factor, 0);
            boolean isRead = readNumber();
            factor[NUMBER] = numberRead;
            return isRead;
        }

        private boolean readPerson(int depth) {
            int[] factor = factors[depth];
            int p = readLetter();
            if (p < 0) {
                return false;
            }
            if (peek() != '@') {
                Arrays.fill(factor, 0);
                factor[p] = 1;
                return true;
            }
            at++;
            if (!open(depth)) {
                return false;
            }
            int q = readLetter();
            if (q < 0 || !pass(':') || !readSide(depth + 1) || !pass(')')) {
                return false;
            }
            System.arraycopy(sides[depth + 1], 0, factor, 0, SUM);
            factor[p]++;
            factor[q]--;
            return true;
        }

        /** The number of a told person, or NONE with a fault. */
        private int readLetter() {
            int p = peek() - 'a';
            if (p < 0 || p >= PEOPLE) {
                fail(CANT_STAND, at);
                return NONE;
            }
            if ((known >> p & 1) == 0) {
                fail(NOT_TOLD, at);
                return NONE;
            }
            at++;
            letters++;
            people |= 1 << p;
            return p;
        }

        private boolean readNumber() {
            numberRead = 0;
            int digits = 0;
            for (int i = 0; i < 4; i++) {
                int c = peek();
                if (c < '0' || c > '9') {
                    break;
                }
                if (digits == 3) {
                    return fail(FOURTH_DIGIT, at);
                }
                numberRead = 10 * numberRead + c - '0';
                digits++;
                at++;
            }
            return digits > 0 || fail(CANT_STAND, at);
        }

        private boolean open(int depth) {
            if (peek() != '(') {
                return fail(CANT_STAND, at);
            }
            if (depth >= DEEPEST) {
                return fail(TOO_DEEP, at);
            }
            at++;
            return true;
        }

        private boolean pass(int c) {
            if (peek() != c) {
                return fail(CANT_STAND, at);
            }
            at++;
            return true;
        }

        private int peek() {
            return at >= 0 && at < end && at < text.length ? text[at] : NONE;
        }

        private boolean fail(int number, int where) {
            fault = number;
            place = where;
            return false;
        }

        private static void add(int[] to, int[] more, int times) {
            for (int i = 0; i < SUM; i++) {
                to[i] += times * more[i];
            }
        }

        /** Of the two, only one can have letters: the other one is its number alone. */
        private static void multiply(int[] term, int[] factor, boolean letterInFactor) {
            int scale = letterInFactor ? term[NUMBER] : factor[NUMBER];
            for (int i = 0; i < SUM; i++) {
                term[i] = scale * (letterInFactor ? factor[i] : term[i]);
            }
        }
    }

    /** Walks through all rows by their order; what the asked remarks tell is kept up at each step. */
    private static final class Rows {
        final Told told;
        final int[] age = new int[PEOPLE];
        final int[] asked = new int[REMARKS];
        final int[] value = new int[REMARKS];
        int askedMany;
        int all;
        int done;

        Rows(Told told) {
            this.told = told;
        }

        /** Ahead of the first row; false: there are too many. */
        boolean start(int remarks) {
            long many = told.allRows();
            if (many > MOST_ROWS) {
                return false;
            }
            all = (int) many;
            done = 0;
            for (int p = 0; p < PEOPLE; p++) {
                age[p] = told.hasPerson(p) ? told.low[p] : 0;
            }
            askedMany = 0;
            for (int k = 0; k < REMARKS; k++) {
                if ((remarks >> k & 1) != 0) {
                    asked[askedMany] = k;
                    value[askedMany] = told.lines[k].tells(age);
                    askedMany++;
                }
            }
            return true;
        }

        /** To the first row in which all of some remarks hold: 0, NO_ROW or TOO_MANY. */
        int seek(int remarks) {
            if (!start(remarks)) {
                return TOO_MANY;
            }
            return next() ? 0 : NO_ROW;
        }

        /** To the next row in which all that is asked holds. */
        boolean next() {
            for (int i = 0; i < MOST_ROWS && move(); i++) {
                if (allHold()) {
                    return true;
                }
            }
            return false;
        }

        /** To the next row. */
        boolean move() {
            if (done >= all) {
                return false;
            }
            if (done > 0) {
                step();
            }
            done++;
            return true;
        }

        private void step() {
            for (int p = PEOPLE - 1; p >= 0; p--) {
                if (told.hasPerson(p)) {
                    if (age[p] < told.high[p]) {
                        grow(p, 1);
                        return;
                    }
                    grow(p, told.low[p] - age[p]);
                }
            }
        }

        private void grow(int p, int years) {
            age[p] += years;
            for (int i = 0; i < askedMany; i++) {
                value[i] += told.lines[asked[i]].times[p] * years;
            }
        }

        private boolean allHold() {
            for (int i = 0; i < askedMany; i++) {
                if (!told.lines[asked[i]].holds(value[i])) {
                    return false;
                }
            }
            return true;
        }

        /** Those of the asked remarks that hold. */
        int holding() {
            int bits = 0;
            for (int i = 0; i < askedMany; i++) {
                if (told.lines[asked[i]].holds(value[i])) {
                    bits |= 1 << asked[i];
                }
            }
            return bits;
        }

        /** Those of the asked remarks that are off by one; NONE if one fails otherwise. */
        int offByOne() {
            int bits = 0;
            for (int i = 0; i < askedMany; i++) {
                Line line = told.lines[asked[i]];
                if (!line.holds(value[i])) {
                    if (line.sign != Line.EQUAL || value[i] != 1 && value[i] != -1) {
                        return NONE;
                    }
                    bits |= 1 << asked[i];
                }
            }
            return bits;
        }
    }

    /** For each set of told remarks, in how many rows all of them hold. */
    private static final class Fits {
        final int[] many = new int[SETS_OF_REMARKS];
        boolean counted;

        void forget() {
            counted = false;
        }

        /** Counts if it must; false: there are too many rows. */
        boolean isCounted(Rows rows) {
            if (!counted && rows.start(rows.told.remarksSaid())) {
                countAll(rows);
                counted = true;
            }
            return counted;
        }

        private void countAll(Rows rows) {
            Arrays.fill(many, 0);
            for (int i = 0; i < MOST_ROWS && rows.move(); i++) {
                many[rows.holding()]++;
            }
            for (int k = 0; k < REMARKS; k++) {
                int bit = 1 << k;
                for (int some = 0; some < SETS_OF_REMARKS; some++) {
                    if ((some & bit) == 0) {
                        many[some] += many[some | bit];
                    }
                }
            }
        }

        int of(int remarks) {
            return remarks >= 0 && remarks < SETS_OF_REMARKS ? many[remarks] : 0;
        }

        /** Rows in which one of some remarks at most doesn't hold. */
        int allButOne(int remarks) {
            int fitting = of(remarks);
            int sum = fitting;
            for (int k = 0; k < REMARKS; k++) {
                if ((remarks >> k & 1) != 0) {
                    sum += of(remarks & ~(1 << k)) - fitting;
                }
            }
            return sum;
        }
    }

    /** The rows that fit, where they are few, and what a form tells in them. */
    private static final class Few {
        final int[] ages = new int[FEW_ROWS * PEOPLE];
        /** What is told in each row above the row's place, so that sorting finds the like ones. */
        final long[] heard = new long[FEW_ROWS];
        final boolean[] isAlone = new boolean[FEW_ROWS];
        int many;
        int numbers;
        int times;
        int number;

        /** False: too many rows, or too many of them fit. */
        boolean gather(Rows rows, int remarks) {
            many = 0;
            if (!rows.start(remarks)) {
                return false;
            }
            for (int i = 0; i < MOST_ROWS && rows.next(); i++) {
                if (many >= FEW_ROWS) {
                    return false;
                }
                System.arraycopy(rows.age, 0, ages, many * PEOPLE, PEOPLE);
                many++;
            }
            return true;
        }

        int ageOf(int row, int p) {
            return ages[row * PEOPLE + p];
        }

        void hear(Line form) {
            for (int row = 0; row < many; row++) {
                int tells = form.besides;
                for (int p = 0; p < PEOPLE; p++) {
                    tells += form.times[p] * ageOf(row, p);
                }
                heard[row] = (long) tells << 32 | row;
            }
            sortHeard();
            for (int i = 0; i < many; i++) {
                boolean likeBefore = i > 0 && toldAt(i - 1) == toldAt(i);
                boolean likeNext = i + 1 < many && toldAt(i + 1) == toldAt(i);
                isAlone[rowAt(i)] = !likeBefore && !likeNext;
            }
        }

        private int toldAt(int i) {
            return (int) (heard[i] >> 32);
        }

        private int rowAt(int i) {
            return (int) (heard[i] & 0xffff) % FEW_ROWS;
        }

        private void sortHeard() {
            for (int gap = 1093; gap > 0; gap /= 3) {
                for (int i = gap; i < many; i++) {
                    long one = heard[i];
                    int to = i;
                    for (; to >= gap && heard[to - gap] > one; to -= gap) {
                        heard[to] = heard[to - gap];
                    }
                    heard[to] = one;
                }
            }
        }

        /** In how many rows what is heard tells the row. */
        int alone() {
            int sum = 0;
            for (int row = 0; row < many; row++) {
                sum += isAlone[row] ? 1 : 0;
            }
            return sum;
        }

        /** Keeps the rows alone in which who heard it knows the row, or those in which not. */
        void leave(boolean whereKnown) {
            int left = 0;
            for (int row = 0; row < many; row++) {
                if (isAlone[row] == whereKnown) {
                    System.arraycopy(ages, row * PEOPLE, ages, left * PEOPLE, PEOPLE);
                    left++;
                }
            }
            many = left;
        }

        /** How many unlike numbers are heard, and the one heard most often. */
        void countNumbers() {
            numbers = 0;
            times = 0;
            number = 0;
            int like = 0;
            for (int i = 0; i < many; i++) {
                boolean isNew = i == 0 || toldAt(i - 1) != toldAt(i);
                numbers += isNew ? 1 : 0;
                like = isNew ? 1 : like + 1;
                if (like > times) {
                    times = like;
                    number = toldAt(i);
                }
            }
        }
    }

    /** The shortest remark by which the first of few rows alone is left. */
    private static final class Shortest {
        static final int IS = 0;
        static final int OLDER_BY = 1;
        static final int TIMES = 2;

        final int[] now = new int[PEOPLE];
        int signs;
        int sort;
        int first;
        int second;
        int number;

        boolean find(Few few, Told told) {
            signs = LONGEST_TEXT + 1;
            for (int p = 0; p < PEOPLE; p++) {
                now[p] = few.ageOf(0, p) + told.lived(p);
            }
            for (int p = 0; p < PEOPLE; p++) {
                if (told.hasPerson(p)) {
                    offer(few, told, IS, p, p, now[p]);
                }
            }
            offerPairs(few, told, OLDER_BY);
            offerPairs(few, told, TIMES);
            return signs <= LONGEST_TEXT;
        }

        private void offerPairs(Few few, Told told, int pairSort) {
            for (int p = 0; p < PEOPLE; p++) {
                for (int q = 0; q < PEOPLE; q++) {
                    int n = numberBetween(pairSort, now[p], now[q]);
                    if (told.hasPerson(p) && told.hasPerson(q) && p != q && n > 0) {
                        offer(few, told, pairSort, p, q, n);
                    }
                }
            }
        }

        /** The number that stands in such a remark about two, or NONE if none can. */
        private static int numberBetween(int pairSort, int age, int other) {
            if (pairSort == OLDER_BY) {
                return age > other ? age - other : NONE;
            }
            if (other <= 0 || age % other != 0) {
                return NONE;
            }
            int times = age / other;
            return times >= 2 && times <= 99 ? times : NONE;
        }

        /** Offered by sort and letters, so that of like ones the one offered first stays. */
        private void offer(Few few, Told told, int newSort, int p, int q, int n) {
            int digits = n > 99 ? 3 : n > 9 ? 2 : 1;
            int newSigns = digits + (newSort == IS ? 2 : 4);
            if (newSigns >= signs || !leavesOne(few, told, newSort, p, q, n)) {
                return;
            }
            signs = newSigns;
            sort = newSort;
            first = p;
            second = q;
            number = n;
        }

        private static boolean leavesOne(Few few, Told told, int newSort, int p, int q, int n) {
            int left = 0;
            for (int row = 0; row < few.many && left < 2; row++) {
                int age = few.ageOf(row, p) + told.lived(p);
                int other = few.ageOf(row, q) + told.lived(q);
                int due = newSort == IS ? n : newSort == OLDER_BY ? other + n : n * other;
                left += age == due ? 1 : 0;
            }
            return left == 1;
        }
    }

    /** All ways to give ages to people. */
    private static final class Giving {
        static final int MOST_WAYS = 720;

        final int[] place = new int[PEOPLE];
        final int[] age = new int[PEOPLE];
        final int[] least = new int[PEOPLE];
        int ways;

        void giveAll(Told told, int[] ages, int people, int remarks) {
            int n = Math.min(Integer.bitCount(people), PEOPLE);
            ways = 0;
            for (int i = 0; i < PEOPLE; i++) {
                place[i] = i;
                age[i] = 0;
            }
            for (int i = 0; i < MOST_WAYS; i++) {
                give(ages, people);
                if (allHold(told, remarks)) {
                    noteWay(people);
                }
                if (!nextOrder(n)) {
                    return;
                }
            }
        }

        private void give(int[] ages, int people) {
            int i = 0;
            for (int p = 0; p < PEOPLE; p++) {
                if ((people >> p & 1) != 0) {
                    age[p] = ages[place[i]];
                    i++;
                }
            }
        }

        private boolean allHold(Told told, int remarks) {
            for (int k = 0; k < REMARKS; k++) {
                Line line = told.lines[k];
                if ((remarks >> k & 1) != 0 && !line.holds(line.tellsIn(age, 0))) {
                    return false;
                }
            }
            return true;
        }

        private void noteWay(int people) {
            int i = 0;
            for (int p = 0; p < PEOPLE && ways == 0; p++) {
                if ((people >> p & 1) != 0) {
                    least[p] = place[i];
                    i++;
                }
            }
            ways++;
        }

        /** The next order of the first n places as words stand in a dictionary. */
        private boolean nextOrder(int n) {
            int i = n - 2;
            while (i >= 0 && place[i] > place[i + 1]) {
                i--;
            }
            if (i < 0) {
                return false;
            }
            int j = n - 1;
            while (j > i && place[j] < place[i]) {
                j--;
            }
            swap(i, j);
            for (int from = i + 1, to = n - 1; from < to; from++, to--) {
                swap(from, to);
            }
            return true;
        }

        private void swap(int i, int j) {
            int one = place[i];
            place[i] = place[j];
            place[j] = one;
        }
    }

    /** From what to what ages can be by who is whose parent. */
    private static final class Family {
        final int[] low = new int[PEOPLE];
        final int[] high = new int[PEOPLE];

        boolean canBe(Told told) {
            System.arraycopy(told.low, 0, low, 0, PEOPLE);
            System.arraycopy(told.high, 0, high, 0, PEOPLE);
            for (int i = 0; i < PEOPLE; i++) {
                tighten(told);
            }
            // Whoever is his own forefather by a year or more is still moved by one pass more.
            if (tighten(told)) {
                return false;
            }
            for (int p = 0; p < PEOPLE; p++) {
                if (told.hasPerson(p) && low[p] > high[p]) {
                    return false;
                }
            }
            return true;
        }

        /** True if a bound moved. */
        private boolean tighten(Told told) {
            boolean moved = false;
            for (int p = 0; p < PEOPLE; p++) {
                for (int child = 0; child < PEOPLE; child++) {
                    int years = told.older[p * PEOPLE + child];
                    if (years >= 0 && low[p] < low[child] + years) {
                        low[p] = low[child] + years;
                        moved = true;
                    }
                    if (years >= 0 && high[child] > high[p] - years) {
                        high[child] = high[p] - years;
                        moved = true;
                    }
                }
            }
            return moved;
        }
    }

    /** Three butts: what is in two of them tells what is in the third. */
    private static final class Casks {
        static final int MOST = 20;
        static final int WIDE = MOST + 1;
        static final int STATES = WIDE * WIDE;
        static final int BUTTS = 3;

        final int[] size = new int[BUTTS];
        final int[] first = new int[BUTTS];
        final int[] now = new int[BUTTS];
        final int[] next = new int[BUTTS];
        final int[] times = new int[STATES];
        final int[] queue = new int[STATES];
        int queued;

        /** Three sizes and three how full; false: they can't be. */
        boolean fill(int[] bytes) {
            for (int i = 0; i < BUTTS; i++) {
                size[i] = bytes[i];
                first[i] = bytes[BUTTS + i];
                if (size[i] > MOST || first[i] > size[i]) {
                    return false;
                }
            }
            return true;
        }

        int pour(int much) {
            Arrays.fill(times, NONE);
            queued = 0;
            reach(first, 0);
            for (int head = 0; head < STATES && head < queued; head++) {
                int state = queue[head];
                setNow(state);
                if (now[0] == much || now[1] == much || now[2] == much) {
                    return times[state];
                }
                for (int from = 0; from < BUTTS; from++) {
                    for (int to = 0; to < BUTTS; to++) {
                        if (from != to) {
                            pourOne(from, to, times[state] + 1);
                        }
                    }
                }
            }
            return -2;
        }

        private void setNow(int state) {
            now[0] = state / WIDE;
            now[1] = state % WIDE;
            now[2] = first[0] + first[1] + first[2] - now[0] - now[1];
        }

        private void pourOne(int from, int to, int time) {
            int poured = Math.min(now[from], size[to] - now[to]);
            System.arraycopy(now, 0, next, 0, BUTTS);
            next[from] -= poured;
            next[to] += poured;
            reach(next, time);
        }

        private void reach(int[] full, int time) {
            int state = full[0] * WIDE + full[1];
            if (state >= 0 && state < STATES && queued < STATES && times[state] < 0) {
                times[state] = time;
                queue[queued] = state;
                queued++;
            }
        }
    }
}
