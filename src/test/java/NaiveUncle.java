import java.util.ArrayList;
import java.util.Arrays;
import java.util.Comparator;
import java.util.HashMap;
import java.util.HashSet;
import java.util.List;
import java.util.Map;
import java.util.Set;
import java.util.TreeMap;
import java.util.function.IntBinaryOperator;

/**
 * The document once more, as plainly as it can be said: texts as trees, all rows as a list, every
 * question by looking at each row. It shares nothing with the class that it is compared with.
 */
final class NaiveUncle {
    /** What a text tells when one's age is asked of such a function. */
    interface Ages {
        int of(int p);
    }

    interface Side {
        int tells(Ages ages);
    }

    static final class Fault extends RuntimeException {
        private static final long serialVersionUID = 1;
        final int number;
        final int place;

        Fault(int number, int place) {
            this.number = number;
            this.place = place;
        }
    }

    static final class Saying {
        Side left;
        Side right;
        char sign = '=';
        int divisor;
        int year;
        int[] shift = new int[6];
        Set<Integer> people = new HashSet<>();

        boolean holds(Ages ages) {
            int value = left.tells(ages) - right.tells(ages);
            switch (sign) {
                case '=': return value == 0;
                case '<': return value < 0;
                case '>': return value > 0;
                default: return value % divisor == 0;
            }
        }

        Ages then(int[] row) {
            return p -> row[p] + shift[p];
        }
    }

    static final class Text {
        final String text;
        final NaiveUncle uncle;
        final Set<Integer> people = new HashSet<>();
        int at = 0;

        Text(String text, NaiveUncle uncle) {
            this.text = text;
            this.uncle = uncle;
        }

        char sign() {
            return at < text.length() ? text.charAt(at) : '\0';
        }

        void want(char c) {
            if (at >= text.length() || text.charAt(at) != c) {
                throw new Fault(1, at);
            }
            at++;
        }

        void wantEnd() {
            if (at < text.length()) {
                throw new Fault(1, at);
            }
        }

        Side side(int open) {
            Side sum = term(open);
            while (sign() == '+' || sign() == '-') {
                int plus = sign() == '+' ? 1 : -1;
                at++;
                Side before = sum;
                Side more = term(open);
                sum = ages -> before.tells(ages) + plus * more.tells(ages);
            }
            return sum;
        }

        Side term(int open) {
            int start = at;
            Side product = factor(open);
            boolean letter = hasLetter(start);
            while (sign() == '*') {
                int star = at;
                at++;
                Side before = product;
                Side more = factor(open);
                if (hasLetter(star)) {
                    if (letter) {
                        throw new Fault(8, star);
                    }
                    letter = true;
                }
                product = ages -> before.tells(ages) * more.tells(ages);
            }
            return product;
        }

        boolean hasLetter(int from) {
            return text.substring(from, at).matches(".*[a-f].*");
        }

        Side factor(int open) {
            if (sign() >= '0' && sign() <= '9') {
                int number = number();
                return ages -> number;
            }
            if (sign() == '(') {
                return inBrackets(open);
            }
            int first = letter();
            if (sign() != '@') {
                return ages -> ages.of(first);
            }
            at++;
            int second = -1;
            openOne(open);
            second = letter();
            int other = second;
            want(':');
            Side inner = side(open + 1);
            want(')');
            return ages -> ages.of(first) + inner.tells(ages) - ages.of(other);
        }

        Side inBrackets(int open) {
            openOne(open);
            Side inner = side(open + 1);
            want(')');
            return inner;
        }

        void openOne(int open) {
            if (sign() == '(' && open == 6) {
                throw new Fault(5, at);
            }
            want('(');
        }

        int letter() {
            if (sign() < 'a' || sign() > 'f') {
                throw new Fault(1, at);
            }
            int p = sign() - 'a';
            if (!uncle.people.containsKey(p)) {
                throw new Fault(7, at);
            }
            people.add(p);
            at++;
            return p;
        }

        int number() {
            int start = at;
            while (sign() >= '0' && sign() <= '9') {
                if (at - start == 3) {
                    throw new Fault(2, at);
                }
                at++;
            }
            if (at == start) {
                throw new Fault(1, at);
            }
            return Integer.parseInt(text.substring(start, at));
        }
    }

    Map<Integer, int[]> people = new TreeMap<>();
    Map<Integer, Saying> remarks = new TreeMap<>();
    Map<Integer, Saying> forms = new TreeMap<>();
    Map<List<Integer>, Integer> parents = new HashMap<>();
    int year = 0;
    StringBuilder tape = new StringBuilder();
    NaiveUncle kept = null;

    private NaiveUncle copy() {
        NaiveUncle copy = new NaiveUncle();
        for (Map.Entry<Integer, int[]> e : people.entrySet()) {
            copy.people.put(e.getKey(), e.getValue().clone());
        }
        copy.remarks.putAll(remarks);
        copy.forms.putAll(forms);
        copy.parents.putAll(parents);
        copy.year = year;
        return copy;
    }

    boolean person(int p, int low, int high) {
        if (p < 0 || p > 5 || low < 0 || low > 99 || high < 0 || high > 99 || low > high) {
            return false;
        }
        people.put(p, new int[] {low, high, 100});
        return true;
    }

    boolean dies(int p, int y) {
        if (!people.containsKey(p) || y < 0 || y > 100) {
            return false;
        }
        people.get(p)[2] = y;
        return true;
    }

    int years(int n) {
        if (n < 1 || n > 99 || year + n > 99) {
            return -1;
        }
        year += n;
        return year;
    }

    int feed(int a, int b, int c, int d, int e) {
        if (tape.length() + 20 > 260) {
            return -1;
        }
        for (int four : new int[] {a, b, c, d, e}) {
            tape.append((char) (four >>> 24)).append((char) (four >>> 16 & 255));
            tape.append((char) (four >>> 8 & 255)).append((char) (four & 255));
        }
        return tape.length();
    }

    private String take(int n) {
        String text = tape.substring(0, n);
        tape.setLength(0);
        return text;
    }

    int addedTo(int p, int inYear) {
        return people.containsKey(p) && people.get(p)[2] < inYear ? people.get(p)[2] : inYear;
    }

    int remark(int k, int n) {
        if (k < 0 || k > 9 || n < 1 || n > 60 || n > tape.length()) {
            return -1;
        }
        return tell(remarks, k, take(n), true);
    }

    int form(int k, int n) {
        if (k < 0 || k > 5 || n < 1 || n > 60 || n > tape.length()) {
            return -1;
        }
        return tell(forms, k, take(n), false);
    }

    private int tell(Map<Integer, Saying> where, int k, String s, boolean isRemark) {
        Text text = new Text(s, this);
        Saying saying = new Saying();
        try {
            saying.left = text.side(0);
            saying.right = ages -> 0;
            if (isRemark) {
                saying.sign = text.sign();
                if ("=<>~".indexOf(saying.sign) < 0 || text.at == s.length()) {
                    throw new Fault(1, text.at);
                }
                text.at++;
                if (saying.sign == '~') {
                    int first = text.at;
                    saying.divisor = text.number();
                    if (saying.divisor == 0) {
                        throw new Fault(3, first);
                    }
                } else {
                    saying.right = text.side(0);
                }
            }
            text.wantEnd();
        } catch (Fault fault) {
            return -1000 * fault.number - fault.place;
        }
        saying.year = year;
        saying.people = text.people;
        for (int p = 0; p < 6; p++) {
            saying.shift[p] = addedTo(p, year);
        }
        where.put(k, saying);
        return text.people.size();
    }

    boolean takeBack(int k) {
        return remarks.remove(k) != null;
    }

    // ---- rows ----

    private long allRows() {
        long all = 1;
        for (int[] one : people.values()) {
            all *= one[1] - one[0] + 1;
        }
        return all;
    }

    private boolean tooMany() {
        return allRows() > 200000;
    }

    int rows() {
        return tooMany() ? -3 : (int) allRows();
    }

    private List<int[]> allRowsListed() {
        List<int[]> list = new ArrayList<>();
        list.add(new int[6]);
        for (int p = 0; p < 6; p++) {
            if (people.containsKey(p)) {
                List<int[]> longer = new ArrayList<>();
                for (int[] row : list) {
                    for (int age = people.get(p)[0]; age <= people.get(p)[1]; age++) {
                        int[] more = row.clone();
                        more[p] = age;
                        longer.add(more);
                    }
                }
                list = longer;
            }
        }
        return list;
    }

    private boolean bad(int bits) {
        return bits < 0 || bits > 1023 || !remarks.keySet().containsAll(set(bits));
    }

    private static List<Integer> set(int bits) {
        List<Integer> list = new ArrayList<>();
        for (int i = 0; i < 31; i++) {
            if ((bits >> i & 1) == 1) {
                list.add(i);
            }
        }
        return list;
    }

    private static int bits(Iterable<Integer> set) {
        int bits = 0;
        for (int i : set) {
            bits |= 1 << i;
        }
        return bits;
    }

    private boolean holds(int k, int[] row) {
        return remarks.get(k).holds(remarks.get(k).then(row));
    }

    private List<int[]> fitting(int bits) {
        List<int[]> list = new ArrayList<>();
        for (int[] row : allRowsListed()) {
            boolean all = true;
            for (int k : set(bits)) {
                all = all && holds(k, row);
            }
            if (all) {
                list.add(row);
            }
        }
        return list;
    }

    private int tells(int k, int[] row) {
        return forms.get(k).left.tells(forms.get(k).then(row));
    }

    /** All sets of remarks within these, the fewest first, of like ones the least bits. */
    private static List<Integer> setsWithin(int bits) {
        List<Integer> sets = new ArrayList<>();
        for (int some = 0; some <= bits; some++) {
            if ((some & ~bits) == 0) {
                sets.add(some);
            }
        }
        sets.sort(Comparator.<Integer>comparingInt(Integer::bitCount).thenComparingInt(x -> x));
        return sets;
    }

    int fit(int r, int what) {
        if (bad(r) || !(what == 100 || what == 101 || people.containsKey(what))) {
            return -1;
        }
        if (tooMany()) {
            return -3;
        }
        if (what == 101) {
            int many = 0;
            for (int[] row : allRowsListed()) {
                int failing = 0;
                for (int k : set(r)) {
                    failing += holds(k, row) ? 0 : 1;
                }
                many += failing <= 1 ? 1 : 0;
            }
            return many;
        }
        List<int[]> fit = fitting(r);
        if (what == 100) {
            return fit.size();
        }
        return fit.isEmpty() ? -2 : fit.get(0)[what];
    }

    private int[] agesOf(List<int[]> fit, int p) {
        return fit.stream().mapToInt(row -> row[p]).sorted().toArray();
    }

    int ageIs(int r, int p, int what) {
        if (bad(r) || !people.containsKey(p) || what < 0 || what > 2) {
            return -1;
        }
        if (tooMany()) {
            return -3;
        }
        int[] ages = agesOf(fitting(r), p);
        if (what == 2) {
            return (int) Arrays.stream(ages).distinct().count();
        }
        return ages.length == 0 ? -2 : what == 0 ? ages[0] : ages[ages.length - 1];
    }

    int aged(int r, int p, int age) {
        if (bad(r) || !people.containsKey(p) || age < 0 || age > 99) {
            return -1;
        }
        return tooMany() ? -3 : (int) fitting(r).stream().filter(row -> row[p] == age).count();
    }

    int middle(int r, int p) {
        if (bad(r) || !people.containsKey(p)) {
            return -1;
        }
        if (tooMany()) {
            return -3;
        }
        int[] ages = agesOf(fitting(r), p);
        return ages.length == 0 ? -2 : ages[(ages.length + 1) / 2 - 1];
    }

    int apart(int r, int p, int q, int what) {
        if (bad(r) || !people.containsKey(p) || !people.containsKey(q) || p == q || what < 0 || what > 2) {
            return -400;
        }
        if (tooMany()) {
            return -300;
        }
        int[] gaps = fitting(r).stream().mapToInt(row -> row[p] - row[q]).sorted().toArray();
        if (what == 2) {
            return (int) Arrays.stream(gaps).filter(gap -> gap == 0).count();
        }
        return gaps.length == 0 ? -200 : what == 0 ? gaps[0] : gaps[gaps.length - 1];
    }

    int follows(int r, int what) {
        if (bad(r) || what < 0 || what > 1) {
            return -1;
        }
        if (tooMany()) {
            return -3;
        }
        Set<Integer> found = new HashSet<>(remarks.keySet());
        for (int[] row : fitting(r)) {
            found.removeIf(k -> holds(k, row) != (what == 0));
        }
        return bits(found);
    }

    int clash(int r, int what) {
        if (bad(r) || what < 0 || what > 1) {
            return -1;
        }
        if (tooMany()) {
            return -3;
        }
        for (int some : setsWithin(r)) {
            if (fitting(some).isEmpty()) {
                return what == 0 ? Integer.bitCount(some) : some;
            }
        }
        return -2;
    }

    int needless(int r) {
        if (bad(r)) {
            return -1;
        }
        if (tooMany()) {
            return -3;
        }
        int bits = 0;
        for (int k : set(r)) {
            if (fitting(r & ~(1 << k)).stream().allMatch(row -> holds(k, row))) {
                bits |= 1 << k;
            }
        }
        return bits;
    }

    private int others(int r) {
        return bits(remarks.keySet()) & ~r;
    }

    int settles(int r) {
        if (bad(r)) {
            return -1;
        }
        if (tooMany()) {
            return -3;
        }
        for (int k : set(others(r))) {
            if (fitting(r | 1 << k).size() == 1) {
                return k;
            }
        }
        return -2;
    }

    int fewest(int r, int what) {
        if (bad(r) || what < 0 || what > 1) {
            return -1;
        }
        if (tooMany()) {
            return -3;
        }
        for (int some : setsWithin(others(r))) {
            if (Integer.bitCount(some) <= 3 && fitting(r | some).size() == 1) {
                return what == 0 ? Integer.bitCount(some) : some;
            }
        }
        return -2;
    }

    private boolean isOffByOne(int k, int[] row) {
        Saying saying = remarks.get(k);
        int left = saying.left.tells(saying.then(row));
        int right = saying.right.tells(saying.then(row));
        return left == right + 1 || left == right - 1;
    }

    int offByAYear(int r, int what) {
        if (bad(r) || what < 0 || what > 1) {
            return -1;
        }
        if (tooMany()) {
            return -3;
        }
        int equal = bits(() -> set(r).stream().filter(k -> remarks.get(k).sign == '=').iterator());
        List<int[]> all = allRowsListed();
        for (int off : setsWithin(equal)) {
            for (int[] row : all) {
                boolean so = true;
                for (int k : set(r)) {
                    so = so && ((off >> k & 1) == 1 ? isOffByOne(k, row) : holds(k, row));
                }
                if (so) {
                    return what == 0 ? Integer.bitCount(off) : off;
                }
            }
        }
        return -2;
    }

    private Map<Integer, Integer> heard(List<int[]> fit, int k) {
        Map<Integer, Integer> times = new TreeMap<>();
        for (int[] row : fit) {
            times.merge(tells(k, row), 1, Integer::sum);
        }
        return times;
    }

    int known(int r, int k) {
        if (bad(r) || !forms.containsKey(k)) {
            return -1;
        }
        if (tooMany()) {
            return -3;
        }
        List<int[]> fit = fitting(r);
        if (fit.size() > 2000) {
            return -3;
        }
        return (int) heard(fit, k).values().stream().filter(n -> n == 1).count();
    }

    int often(int r, int k, int what) {
        if (bad(r) || !forms.containsKey(k) || what < 0 || what > 2) {
            return -1;
        }
        if (tooMany() || fitting(r).size() > 2000) {
            return -3;
        }
        Map<Integer, Integer> times = heard(fitting(r), k);
        if (what == 0) {
            return times.size();
        }
        int most = times.values().stream().mapToInt(n -> n).max().orElse(0);
        if (what == 1) {
            return most;
        }
        return times.entrySet().stream().filter(e -> e.getValue() == most).mapToInt(e -> e.getKey()).min().orElse(-2);
    }

    int sayings(int r, int n, int what) {
        if (bad(r) || !(what == 100 || people.containsKey(what)) || n < 1 || n > 20 || n > tape.length()) {
            return -1;
        }
        String text = take(n);
        for (int i = 0; i <= n; i++) {
            boolean end = i == n;
            if (i % 2 == 0 && !end && !text.substring(i, i + 1).matches("[A-F]")) {
                return -1000 - i;
            }
            if (i % 2 == 0 && !end && !forms.containsKey(text.charAt(i) - 'A')) {
                return -7000 - i;
            }
            if (i % 2 == 1 && (end || text.charAt(i) != '+' && text.charAt(i) != '-')) {
                return -1000 - i;
            }
        }
        if (tooMany()) {
            return -3;
        }
        List<int[]> left = fitting(r);
        if (left.size() > 2000) {
            return -3;
        }
        for (int i = 0; i < n; i += 2) {
            int k = text.charAt(i) - 'A';
            boolean knows = text.charAt(i + 1) == '+';
            Map<Integer, Integer> times = heard(left, k);
            List<int[]> next = new ArrayList<>(left);
            next.removeIf(row -> times.get(tells(k, row)) == 1 != knows);
            left = next;
        }
        if (what == 100) {
            return left.size();
        }
        return left.isEmpty() ? -2 : left.get(0)[what];
    }

    int between(int r, int k, int what) {
        if (bad(r) || !forms.containsKey(k) || what < 0 || what > 1 || tooMany()) {
            return 0;
        }
        int[] told = fitting(r).stream().mapToInt(row -> tells(k, row)).sorted().toArray();
        return told.length == 0 ? 0 : told[what == 0 ? 0 : told.length - 1];
    }

    int worth(int r, int k) {
        if (bad(r) || !forms.containsKey(k) || tooMany()) {
            return 0;
        }
        List<int[]> fit = fitting(r);
        return fit.isEmpty() ? 0 : tells(k, fit.get(0));
    }

    // ---- the row ----

    int isTrue(int r, int k, int what) {
        if (bad(r) || !remarks.containsKey(k) || what < 0 || what > 2) {
            return -204;
        }
        if (tooMany()) {
            return -203;
        }
        List<int[]> fit = fitting(r);
        if (fit.isEmpty()) {
            return -201;
        }
        int[] row = fit.get(0);
        int many = 0;
        int last = -200;
        int next = -200;
        for (int d = -99; d <= 99; d++) {
            int then = year + d;
            if (remarks.get(k).holds(p -> row[p] + then)) {
                many++;
                last = d <= 0 ? d : last;
                next = d > 0 && next == -200 ? d : next;
            }
        }
        return what == 0 ? many : what == 1 ? last : next;
    }

    int together(int r, int p, int o) {
        if (bad(r) || !people.containsKey(p) || o < 0 || o > 63 || !people.keySet().containsAll(set(o))
                || set(o).contains(p) || set(o).size() < 2 || set(o).size() > 5) {
            return -4000;
        }
        if (tooMany()) {
            return -3000;
        }
        List<int[]> fit = fitting(r);
        if (fit.isEmpty()) {
            return -2000;
        }
        for (int d = -3000; d <= 3000; d++) {
            int sum = 0;
            for (int q : set(o)) {
                sum += fit.get(0)[q] + year + d;
            }
            if (sum == fit.get(0)[p] + year + d) {
                return d;
            }
        }
        return -1000;
    }

    int turned(int r, int p, int q, int what) {
        if (bad(r) || !people.containsKey(p) || !people.containsKey(q) || p == q || what < 0 || what > 1) {
            return -1;
        }
        if (tooMany()) {
            return -3;
        }
        List<int[]> fit = fitting(r);
        if (fit.isEmpty()) {
            return -2;
        }
        List<Integer> found = new ArrayList<>();
        for (int d = 0; d < 100; d++) {
            String one = "" + (fit.get(0)[p] + year + d);
            String other = "" + (fit.get(0)[q] + year + d);
            if (one.length() == 2 && other.length() == 2 && new StringBuilder(one).reverse().toString().equals(other)) {
                found.add(d);
            }
        }
        return what == 0 ? found.size() : found.isEmpty() ? -2 : found.get(0);
    }

    int squares(int r, int what) {
        if (bad(r) || what < 0 || what > 100) {
            return -1;
        }
        if (tooMany()) {
            return -3;
        }
        List<int[]> fit = fitting(r);
        if (fit.isEmpty()) {
            return -2;
        }
        int[] many = new int[100];
        for (int d = 0; d < 100; d++) {
            for (int p : people.keySet()) {
                double root = Math.sqrt(fit.get(0)[p] + year + d);
                many[d] += root == Math.rint(root) ? 1 : 0;
            }
        }
        if (what < 100) {
            return many[what];
        }
        int most = Arrays.stream(many).max().getAsInt();
        for (int d = 0; ; d++) {
            if (many[d] == most) {
                return d;
            }
        }
    }

    int when(int r, int p, int q, int age) {
        if (bad(r) || !people.containsKey(p) || !people.containsKey(q) || age < 0 || age > 199) {
            return -4000;
        }
        if (tooMany()) {
            return -3000;
        }
        List<int[]> fit = fitting(r);
        if (fit.isEmpty()) {
            return -1000;
        }
        int born = year - (fit.get(0)[q] + year);
        return fit.get(0)[p] + born + age;
    }

    int check(int n) {
        if (n < 0 || n > 6 || n > tape.length()) {
            return -2;
        }
        String text = take(n);
        if (tooMany()) {
            return -2;
        }
        List<int[]> fit = fitting(bits(remarks.keySet()));
        if (fit.isEmpty()) {
            return -2;
        }
        for (int p = 0; p < n; p++) {
            if (text.charAt(p) != fit.get(0)[p]) {
                return p;
            }
        }
        return -1;
    }

    // ---- the rest ----

    private void orders(List<Integer> begun, int n, List<List<Integer>> all) {
        if (begun.size() == n) {
            all.add(new ArrayList<>(begun));
            return;
        }
        for (int i = 0; i < n; i++) {
            if (!begun.contains(i)) {
                begun.add(i);
                orders(begun, n, all);
                begun.remove(begun.size() - 1);
            }
        }
    }

    int whoIsWho(int n, int who, int r, int what) {
        if (n < 2 || n > 6 || n > tape.length() || who < 0 || who > 63 || !people.keySet().containsAll(set(who))
                || set(who).size() != n || bad(r) || !(what == 100 || set(who).contains(what))) {
            return -1;
        }
        String ages = take(n);
        for (int i = 0; i < n; i++) {
            if (ages.charAt(i) > 99) {
                return -3;
            }
        }
        for (int k : set(r)) {
            if (!set(who).containsAll(remarks.get(k).people)) {
                return -3;
            }
        }
        List<List<Integer>> all = new ArrayList<>();
        orders(new ArrayList<>(), n, all);
        List<Integer> those = set(who);
        all.removeIf(order -> set(r).stream().anyMatch(
                k -> !remarks.get(k).holds(p -> ages.charAt(order.get(those.indexOf(p))))));
        if (what == 100) {
            return all.size();
        }
        return all.isEmpty() ? -2 : all.get(0).get(those.indexOf(what));
    }

    int asks(int r, int what) {
        if (bad(r) || what < 0 || what > 2) {
            return -1;
        }
        if (tooMany()) {
            return -3;
        }
        int all = fitting(r).size();
        IntBinaryOperator cost = (k, left) -> what == 0 ? Math.abs(all - left - left) : what == 1 ? -left : left;
        return set(others(r)).stream().filter(k -> all > 0 && (what == 0 || !fitting(r | 1 << k).isEmpty()))
                .min(Comparator.<Integer>comparingInt(k -> cost.applyAsInt(k, fitting(r | 1 << k).size()))
                        .thenComparingInt(k -> k)).orElse(-2);
    }

    int unlike(int r, int o) {
        if (bad(r) || bad(o)) {
            return -1;
        }
        if (tooMany()) {
            return -3;
        }
        int many = 0;
        for (int[] row : allRowsListed()) {
            boolean one = set(r).stream().allMatch(k -> holds(k, row));
            boolean other = set(o).stream().allMatch(k -> holds(k, row));
            many += one != other ? 1 : 0;
        }
        return many;
    }

    /** Tells each such remark as a text to a copy, and looks whether one row alone is left. */
    int shortest(int r, int what) {
        if (bad(r) || what < 0 || what > 4) {
            return -1;
        }
        if (tooMany()) {
            return -3;
        }
        List<int[]> fit = fitting(r);
        if (fit.size() > 2000) {
            return -3;
        }
        if (fit.isEmpty()) {
            return -2;
        }
        int[] best = null;
        for (int sort = 0; sort < 3; sort++) {
            for (int a : people.keySet()) {
                for (int b : people.keySet()) {
                    int ageA = fit.get(0)[a] + addedTo(a, year);
                    int ageB = fit.get(0)[b] + addedTo(b, year);
                    int number = sort == 0 ? ageA : sort == 1 ? ageA - ageB : ageB == 0 ? 0 : ageA / ageB;
                    boolean canBe = sort == 0 ? a == b : a != b && number >= sort && number <= (sort == 1 ? 999 : 99)
                            && (sort == 1 || number * ageB == ageA);
                    if (!canBe) {
                        continue;
                    }
                    String text = letter(a) + "="
                            + (sort == 0 ? "" + number : sort == 1 ? letter(b) + "+" + number : number + "*" + letter(b));
                    if ((best == null || text.length() < best[0]) && aloneBy(text, fit)) {
                        best = new int[] {text.length(), sort, a, sort == 0 ? -2 : b, number};
                    }
                }
            }
        }
        return best == null ? -2 : best[what];
    }

    private static String letter(int p) {
        return "" + (char) ('a' + p);
    }

    private boolean aloneBy(String text, List<int[]> fit) {
        NaiveUncle copy = copy();
        copy.tell(copy.remarks, 0, text, true);
        return fit.stream().filter(row -> copy.holds(0, row)).count() == 1;
    }

    boolean parent(int p, int child, int years) {
        if (!people.containsKey(p) || !people.containsKey(child) || p == child || years < -1 || years > 99) {
            return false;
        }
        parents.remove(List.of(p, child));
        if (years >= 0) {
            parents.put(List.of(p, child), years);
        }
        return true;
    }

    /** By the sets of ages that are left to each, till none can be dropped any more. */
    int tree(int p, int what) {
        if (!people.containsKey(p) || what < 0 || what > 1) {
            return -1;
        }
        Map<Integer, Set<Integer>> left = new TreeMap<>();
        people.forEach((q, one) -> {
            Set<Integer> ages = new HashSet<>();
            for (int age = one[0]; age <= one[1]; age++) {
                ages.add(age);
            }
            left.put(q, ages);
        });
        boolean dropped = true;
        while (dropped) {
            dropped = false;
            for (Map.Entry<List<Integer>, Integer> e : parents.entrySet()) {
                Set<Integer> old = left.get(e.getKey().get(0));
                Set<Integer> young = left.get(e.getKey().get(1));
                int years = e.getValue();
                dropped |= old.removeIf(age -> young.stream().noneMatch(other -> age >= other + years));
                dropped |= young.removeIf(age -> old.stream().noneMatch(other -> other >= age + years));
            }
        }
        if (left.values().stream().anyMatch(Set::isEmpty)) {
            return -2;
        }
        return what == 0 ? left.get(p).stream().min(Integer::compare).get() : left.get(p).stream().max(Integer::compare).get();
    }

    /** Wears down one mile at a time the tyres with most miles left; exact for whole miles of all. */
    int tyres(int n, int needed) {
        if (n < 1 || n > 8 || needed < 1 || needed > 8 || n > tape.length()) {
            return -1;
        }
        String text = take(n);
        if (text.indexOf('\0') >= 0) {
            return -2;
        }
        if (n < needed) {
            return -3;
        }
        Integer[] miles = new Integer[n];
        for (int i = 0; i < n; i++) {
            miles[i] = (int) text.charAt(i);
        }
        for (int way = 0; ; way++) {
            Arrays.sort(miles, Comparator.reverseOrder());
            if (miles[needed - 1] == 0) {
                return way;
            }
            for (int i = 0; i < needed; i++) {
                miles[i]--;
            }
        }
    }

    int butts(int much) {
        if (much < 0 || much > 20 || tape.length() < 6) {
            return -1;
        }
        String text = take(6);
        int[] size = {text.charAt(0), text.charAt(1), text.charAt(2)};
        Set<List<Integer>> now = new HashSet<>();
        now.add(List.of((int) text.charAt(3), (int) text.charAt(4), (int) text.charAt(5)));
        for (int i = 0; i < 3; i++) {
            if (size[i] > 20 || text.charAt(3 + i) > size[i]) {
                return -3;
            }
        }
        Set<List<Integer>> seen = new HashSet<>();
        for (int times = 0; !now.isEmpty(); times++) {
            Set<List<Integer>> next = new HashSet<>();
            for (List<Integer> full : now) {
                if (full.contains(much)) {
                    return times;
                }
                for (int from = 0; from < 3; from++) {
                    for (int to = 0; to < 3; to++) {
                        List<Integer> then = new ArrayList<>(full);
                        while (from != to && then.get(from) > 0 && then.get(to) < size[to]) {
                            then.set(from, then.get(from) - 1);
                            then.set(to, then.get(to) + 1);
                        }
                        next.add(then);
                    }
                }
            }
            seen.addAll(now);
            next.removeAll(seen);
            now = next;
        }
        return -2;
    }

    private Saying told(int k) {
        return k >= 10 ? forms.get(k - 10) : remarks.get(k);
    }

    /** What is told when all were 0 in year 0, and how much more when one was 1. */
    int plain(int k, int what) {
        Saying saying = told(k);
        if (saying == null || what < 0 || what > 6) {
            return 0;
        }
        int besides = difference(saying, new int[6]);
        if (what == 6) {
            return besides;
        }
        int[] one = new int[6];
        one[what] = 1;
        return difference(saying, one) - besides;
    }

    private static int difference(Saying saying, int[] row) {
        return saying.left.tells(saying.then(row)) - saying.right.tells(saying.then(row));
    }

    int remarkIs(int k, int what) {
        Saying saying = told(k);
        if (saying == null || what < 0 || what > 3 || k >= 10 && what < 2) {
            return -1;
        }
        switch (what) {
            case 0: return "=<>~".indexOf(saying.sign);
            case 1: return saying.divisor;
            case 2: return saying.year;
            default: return bits(saying.people);
        }
    }

    long howOld(int n, int sum, int low, int high) {
        if (n < 1 || n > 6 || sum < 0 || sum > 400 || low < 0 || high > 99 || low > high) {
            return -1;
        }
        return waysToCome(n, sum, low, high, new HashMap<>());
    }

    private long waysToCome(int n, int sum, int low, int high, Map<List<Integer>, Long> before) {
        if (n == 0 || sum < 0) {
            return sum == 0 ? 1 : 0;
        }
        List<Integer> key = List.of(n, sum, high);
        Long found = before.get(key);
        if (found != null) {
            return found;
        }
        long ways = 0;
        for (int oldest = low; oldest <= high; oldest++) {
            ways += waysToCome(n - 1, sum - oldest, low, oldest, before);
        }
        before.put(key, ways);
        return ways;
    }

    int keep() {
        kept = copy();
        return remarks.size();
    }

    boolean undo() {
        if (kept == null) {
            return false;
        }
        NaiveUncle copy = kept.copy();
        people = copy.people;
        remarks = copy.remarks;
        forms = copy.forms;
        parents = copy.parents;
        year = copy.year;
        return true;
    }

    int count(int what) {
        switch (what) {
            case 0: return year;
            case 1: return bits(people.keySet());
            case 2: return bits(remarks.keySet());
            case 3: return bits(forms.keySet());
            case 4: return tape.length();
            default: break;
        }
        int p = Math.floorMod(what, 10);
        int sort = Math.floorDiv(what, 10);
        if (sort < 1 || sort > 3 || !people.containsKey(p)) {
            return -1;
        }
        int found = people.get(p)[sort - 1];
        return sort == 3 && found == 100 ? -2 : found;
    }
}
