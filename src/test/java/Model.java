import java.util.ArrayList;
import java.util.List;
import java.util.regex.Matcher;
import java.util.regex.Pattern;

/** The document's words, counted ROW by ROW and woman by woman, to compare LoafStreet with. */
final class Model {
    static final long BAD = -1_000_000_000_000_000_000L;
    static final List<String> WORDS = List.of("baker", "cost", "steps", "from", "by", "list", "door", "women",
        "ask", "and", "worth", "each", "of", "readers");

    static final class Sort {
        int kind;
        int number;
        int told;
        int worth = 999;
        int set;
    }

    static final class Told {
        List<String> names = new ArrayList<>();
        List<Integer> costs = new ArrayList<>();
        List<Sort> sorts = new ArrayList<>();
        int steps = 4;
        int from = 5;
        int by = 5;
        int door = 0;
        int listed = 0;
        int statements = 0;
    }

    static final class Ask implements Cloneable {
        int kind = 0;
        int[] parts = new int[8];

        Ask copy() {
            Ask a = new Ask();
            a.kind = kind;
            a.parts = parts.clone();
            return a;
        }
    }

    static final class Image {
        Ask[] asks = new Ask[4];
        int promises;
        int[] costs;
        int force;
    }

    String tape = "";
    Told told = new Told();
    int taken = 0;
    int fault = -1;
    Ask[] asks = {new Ask(), new Ask(), new Ask(), new Ask()};
    int promises = 0;
    int[] costs = new int[4];
    int force = -1;
    List<int[]> laws = new ArrayList<>();
    List<Image> images = new ArrayList<>();

    // ---- the text

    static final class Fault extends Exception {
        private static final long serialVersionUID = 1L;
        final int place;

        Fault(int place) {
            super(null, null, false, false);
            this.place = place;
        }
    }

    static final class Tokens {
        final List<String> texts = new ArrayList<>();
        final List<Integer> places = new ArrayList<>();
        final int length;
        int at = 0;

        Tokens(String text) {
            length = text.length();
            Matcher m = Pattern.compile("[a-z]+|[0-9]+|[^ \n]", Pattern.DOTALL).matcher(text);
            while (m.find()) {
                texts.add(m.group());
                places.add(m.start());
            }
        }

        boolean over() {
            return at >= texts.size();
        }

        String peek() {
            return over() ? "" : texts.get(at);
        }

        int place() {
            return over() ? length : places.get(at);
        }

        void must(boolean so) throws Fault {
            if (!so) {
                throw new Fault(place());
            }
        }

        void word(String word) throws Fault {
            must(peek().equals(word));
            at++;
        }

        boolean maybe(String word) {
            if (peek().equals(word)) {
                at++;
                return true;
            }
            return false;
        }

        int number(int least, int most) throws Fault {
            must(peek().matches("[0-9]{1,4}"));
            int n = Integer.parseInt(peek());
            must(n >= least && n <= most);
            at++;
            return n;
        }

        String name() throws Fault {
            must(peek().matches("[a-z]{1,8}") && !WORDS.contains(peek()));
            return peek();
        }
    }

    static Told parse(String text) throws Fault {
        Told t = new Told();
        Tokens in = new Tokens(text);
        while (!in.over()) {
            in.must(t.statements < 24);
            String first = in.peek();
            boolean isSort = first.equals("women") || first.equals("each") || first.equals("readers");
            in.must(!isSort || t.sorts.size() < 12);
            in.must(List.of("baker", "steps", "list", "door", "women", "each", "readers").contains(first));
            in.at++;
            if (first.equals("baker")) {
                String name = in.name();
                in.must(!t.names.contains(name) && t.names.size() < 4);
                in.at++;
                in.word("cost");
                t.costs.add(in.number(0, 99));
                t.names.add(name);
            } else if (first.equals("steps")) {
                t.steps = in.number(1, 8);
                in.word("from");
                t.from = in.number(0, 99);
                in.word("by");
                t.by = in.number(1, 20);
            } else if (first.equals("list")) {
                t.listed |= 1 << nameOf(t, in);
            } else if (first.equals("door")) {
                t.door = in.number(0, 99);
            } else {
                sort(t, in, first);
            }
            in.word(";");
            t.statements++;
        }
        in.must(!t.names.isEmpty());
        return t;
    }

    static int nameOf(Told t, Tokens in) throws Fault {
        int b = t.names.indexOf(in.name());
        in.must(b >= 0);
        in.at++;
        return b;
    }

    static void sort(Told t, Tokens in, String first) throws Fault {
        Sort s = new Sort();
        s.number = in.number(1, 99);
        if (first.equals("women")) {
            in.word("ask");
            s.told = 1 << nameOf(t, in);
            while (in.maybe("and")) {
                String name = in.name();
                int b = t.names.indexOf(name);
                in.must(b >= 0 && (s.told & 1 << b) == 0);
                in.at++;
                s.told |= 1 << b;
            }
        } else if (first.equals("each")) {
            s.kind = 1;
            in.word("of");
            s.told = in.number(1, 4);
        } else {
            s.kind = 2;
        }
        if (in.maybe("worth")) {
            s.worth = in.number(0, 999);
        }
        s.set = s.told;
        t.sorts.add(s);
    }

    int feed(int... five) {
        if (tape.length() + 20 > 800) {
            return -1;
        }
        StringBuilder b = new StringBuilder(tape);
        for (int n : five) {
            for (int i = 3; i >= 0; i--) {
                b.append((char) (n >> 8 * i & 255));
            }
        }
        tape = b.toString();
        return tape.length();
    }

    int street(int n) {
        if (n < 0 || n > tape.length()) {
            return -2;
        }
        String text = tape.substring(0, n);
        tape = "";
        try {
            told = parse(text);
        } catch (Fault f) {
            fault = f.place;
            return -1;
        }
        fault = -1;
        taken++;
        for (int b = 0; b < 4; b++) {
            asks[b] = new Ask();
            costs[b] = b < bakers() ? told.costs.get(b) : 0;
        }
        promises = 0;
        force = -1;
        laws.clear();
        images.clear();
        return bakers();
    }

    int told(int what) {
        if (what >= 200) {
            if ((what - 200) / 4 >= told.sorts.size()) {
                return -1;
            }
            Sort s = told.sorts.get((what - 200) / 4);
            return new int[] {s.kind, s.number, s.told, s.worth}[(what - 200) % 4];
        }
        if (what >= 100) {
            return what - 100 < bakers() ? costs[what - 100] : -1;
        }
        int[] all = {bakers(), told.sorts.size(), told.steps, told.from, told.by, told.door, told.listed,
            told.statements};
        return what >= 0 && what < all.length ? all[what] : -1;
    }

    // ---- asks

    int bakers() {
        return told.names.size();
    }

    boolean isBaker(int b) {
        return b >= 0 && b < bakers();
    }

    boolean isSort(int s) {
        return s >= 0 && s < told.sorts.size();
    }

    boolean isStep(int k) {
        return k >= 0 && k < told.steps;
    }

    boolean cost(int b, int cost) {
        if (!isBaker(b) || cost < 0 || cost > 99) {
            return false;
        }
        costs[b] = cost;
        return true;
    }

    boolean promise(int b, boolean is) {
        if (!isBaker(b)) {
            return false;
        }
        promises = is ? promises | 1 << b : promises & ~(1 << b);
        return true;
    }

    boolean sure(int b, int step) {
        if (!isBaker(b) || !isStep(step)) {
            return false;
        }
        asks[b] = new Ask();
        asks[b].kind = 1;
        asks[b].parts[step] = 100;
        return true;
    }

    boolean lot(int b, int step, int parts) {
        if (!isBaker(b) || step < 0 || step > 7 || parts < 0 || parts > 100) {
            return false;
        }
        if (asks[b].kind != 2) {
            asks[b] = new Ask();
            asks[b].kind = 2;
        }
        asks[b].parts[step] = parts;
        return true;
    }

    boolean answer(int b) {
        if (!isBaker(b)) {
            return false;
        }
        asks[b] = new Ask();
        asks[b].kind = 3;
        return true;
    }

    int ask(int b) {
        return isBaker(b) ? asks[b].kind : -1;
    }

    // ---- one ROW

    int price(int step) {
        return told.from + step * told.by;
    }

    boolean barred(int step) {
        return force >= 0 && (laws.get(force)[0] == 0 && step > laws.get(force)[1]
            || laws.get(force)[0] == 1 && step < laws.get(force)[1]);
    }

    boolean shouted() {
        return force >= 0 && laws.get(force)[0] == 2;
    }

    List<Integer> sets(Sort s) {
        List<Integer> sets = new ArrayList<>();
        if (s.kind == 0) {
            sets.add(s.set);
        } else if (s.kind == 2) {
            sets.add(told.listed);
        } else {
            for (int m = 0; m < 1 << bakers(); m++) {
                if (Integer.bitCount(m) == s.told) {
                    sets.add(m);
                }
            }
        }
        if (shouted()) {
            sets.replaceAll(m -> (1 << bakers()) - 1);
        }
        return sets;
    }

    int leastPrice(int set, int[] row) {
        int least = Integer.MAX_VALUE;
        for (int b = 0; b < bakers(); b++) {
            if ((set & 1 << b) != 0) {
                least = Math.min(least, price(row[b]));
            }
        }
        return least;
    }

    /** Of one BAKER by one ROW: parts sold, and what it earns. */
    long[] trade(int b, int[] row) {
        long[] r = new long[2];
        for (Sort s : told.sorts) {
            for (int set : sets(s)) {
                int least = leastPrice(set, row);
                if (set != 0 && least <= s.worth && (set & 1 << b) != 0) {
                    int sellers = 0;
                    for (int i = 0; i < bakers(); i++) {
                        sellers += sells(i, set, least, row) ? 1 : 0;
                    }
                    if (sells(b, set, least, row)) {
                        r[0] += (long) s.number * 12 / sellers;
                        r[1] += (long) s.number * 12 / sellers * (least - costs[b]);
                    }
                }
            }
        }
        return r;
    }

    boolean sells(int b, int set, int least, int[] row) {
        return (set & 1 << b) != 0 && (price(row[b]) == least || (promises & 1 << b) != 0);
    }

    long[] bill(Sort s, int[] row) {
        long[] r = new long[3];
        for (int set : sets(s)) {
            int least = leastPrice(set, row);
            if (set != 0 && least <= s.worth) {
                r[0] += 12L * s.number * least;
                r[1] += 12L * s.number;
            } else {
                r[2] += 12L * s.number;
            }
        }
        return r;
    }

    // ---- all ROWS

    List<int[]> rows() {
        List<int[]> rows = new ArrayList<>();
        int all = 1;
        for (int b = 0; b < bakers(); b++) {
            all *= told.steps;
        }
        for (int i = 0; i < all; i++) {
            int[] row = new int[bakers()];
            int left = i;
            for (int b = 0; b < bakers(); b++) {
                row[b] = left % told.steps;
                left /= told.steps;
            }
            rows.add(row);
        }
        return rows;
    }

    static long weight(int[][] parts, int[] row) {
        long w = 1;
        for (int b = 0; b < row.length; b++) {
            w *= parts[b][row[b]];
        }
        return w;
    }

    /** ASKS as parts; null: they aren't WHOLE. */
    int[][] whole() {
        int[][] parts = new int[bakers()][];
        int answering = -1;
        for (int b = 0; b < bakers(); b++) {
            if (asks[b].kind == 0 || asks[b].kind == 3 && answering >= 0) {
                return null;
            }
            if (asks[b].kind == 3) {
                answering = b;
                parts[b] = new int[8];
                continue;
            }
            parts[b] = asks[b].parts.clone();
            int sum = 0;
            for (int k = 0; k < 8; k++) {
                if (parts[b][k] > 0 && (!isStep(k) || barred(k))) {
                    return null;
                }
                sum += parts[b][k];
            }
            if (sum != 100) {
                return null;
            }
        }
        if (answering >= 0) {
            int best = bestOf(answering, parts);
            if (best < 0) {
                return null;
            }
            parts[answering] = sureParts(best);
        }
        return bakers() == 0 ? null : parts;
    }

    static int[] sureParts(int step) {
        int[] p = new int[8];
        p[step] = 100;
        return p;
    }

    long[] tradeBy(int b, int[][] parts) {
        long[] r = new long[2];
        for (int[] row : likely(parts)) {
            long w = weight(parts, row);
            long[] t = trade(b, row);
            r[0] += w * t[0];
            r[1] += w * t[1];
        }
        return r;
    }

    List<int[]> likely(int[][] parts) {
        List<int[]> rows = rows();
        rows.removeIf(row -> weight(parts, row) == 0);
        return rows;
    }

    long earnsAt(int b, int step, int[][] parts) {
        int[][] other = parts.clone();
        other[b] = sureParts(step);
        return tradeBy(b, other)[1];
    }

    int bestOf(int b, int[][] parts) {
        int best = -1;
        long most = 0;
        for (int k = 0; k < told.steps; k++) {
            if (!barred(k)) {
                long e = earnsAt(b, k, parts);
                if (best < 0 || e > most) {
                    best = k;
                    most = e;
                }
            }
        }
        return best;
    }

    int part(int b, int step) {
        int[][] p = whole();
        return p == null || !isBaker(b) || step < 0 || step > 7 ? -1 : p[b][step];
    }

    long sold(int b) {
        int[][] p = whole();
        return p == null || !isBaker(b) ? -1 : tradeBy(b, p)[0];
    }

    long earns(int b) {
        int[][] p = whole();
        return p == null || !isBaker(b) ? BAD : tradeBy(b, p)[1];
    }

    long at(int b, int step) {
        int[][] p = whole();
        return p == null || !isBaker(b) || !isStep(step) ? BAD : earnsAt(b, step, p);
    }

    int best(int b) {
        int[][] p = whole();
        return p == null || !isBaker(b) ? -1 : bestOf(b, p);
    }

    int judge() {
        int[][] p = whole();
        if (p == null) {
            return -2;
        }
        for (int b = 0; b < bakers(); b++) {
            int best = bestOf(b, p);
            if (earnsAt(b, best, p) > tradeBy(b, p)[1]) {
                return 10 * b + best;
            }
        }
        return -1;
    }

    List<int[]> restRows() {
        List<int[]> found = new ArrayList<>();
        for (int[] row : rows()) {
            boolean rest = true;
            for (int b = 0; b < bakers() && rest; b++) {
                rest = !barred(row[b]);
                long now = trade(b, row)[1];
                for (int k = 0; k < told.steps && rest; k++) {
                    int[] other = row.clone();
                    other[b] = k;
                    rest = barred(k) || trade(b, other)[1] <= now;
                }
            }
            if (rest) {
                found.add(row);
            }
        }
        return found;
    }

    static int code(int[] row) {
        int code = 0;
        for (int b = row.length - 1; b >= 0; b--) {
            code = code * 8 + row[b];
        }
        return code;
    }

    int rests(int k) {
        if (bakers() == 0) {
            return -1;
        }
        List<int[]> found = restRows();
        if (k == -1) {
            return found.size();
        }
        return k >= 0 && k < found.size() ? code(found.get(k)) : -1;
    }

    long[] billBy(int s, int[][] parts) {
        long[] r = new long[3];
        for (int[] row : likely(parts)) {
            long[] one = bill(told.sorts.get(s), row);
            for (int i = 0; i < 3; i++) {
                r[i] += one[i] * weight(parts, row);
            }
        }
        return r;
    }

    long pays(int s, int what) {
        int[][] p = whole();
        return p == null || !isSort(s) || what < 0 || what > 2 ? -1 : billBy(s, p)[what];
    }

    int mean(int s) {
        int[][] p = whole();
        return p == null || !isSort(s) ? -1 : meanOf(billBy(s, p));
    }

    static int meanOf(long[] bill) {
        return bill[1] == 0 ? -1 : (int) (bill[0] * 1000 / bill[1]);
    }

    long gap() {
        int[][] p = whole();
        if (p == null) {
            return -1;
        }
        long sum = 0;
        for (int[] row : likely(p)) {
            int least = Integer.MAX_VALUE;
            int most = 0;
            for (int k : row) {
                least = Math.min(least, price(k));
                most = Math.max(most, price(k));
            }
            sum += weight(p, row) * (most - least);
        }
        return sum;
    }

    // ---- doors

    long value(Sort s, int set, int[][] parts) {
        long sum = 0;
        for (int[] row : likely(parts)) {
            sum += weight(parts, row) * Math.max(0, s.worth - leastPrice(set, row));
        }
        return sum;
    }

    long saves(int s, int door) {
        int[][] p = whole();
        if (p == null || !isSort(s) || told.sorts.get(s).kind != 0 || shouted() || !isBaker(door)) {
            return -1;
        }
        Sort sort = told.sorts.get(s);
        if ((sort.set & 1 << door) != 0) {
            return -1;
        }
        return value(sort, sort.set | 1 << door, p) - value(sort, sort.set, p);
    }

    int would(int s) {
        int best = -1;
        long most = told.door;
        for (int b = 0; b < bakers(); b++) {
            most *= 100;
        }
        for (int b = 0; b < bakers(); b++) {
            long saved = saves(s, b);
            if (saved > most) {
                most = saved;
                best = b;
            }
        }
        return best;
    }

    int look(int n, int what) {
        if (n < 1 || n > 9 || whole() == null || shouted()) {
            return -1;
        }
        if (what != 0 && (!isSort(what - 10) || told.sorts.get(what - 10).kind != 0)) {
            return -1;
        }
        int gone = 0;
        boolean took = true;
        while (gone < n && took) {
            gone++;
            took = false;
            for (int s = 0; s < told.sorts.size(); s++) {
                int door = would(s);
                if (door >= 0) {
                    told.sorts.get(s).set |= 1 << door;
                    took = true;
                }
            }
        }
        int result = what == 0 ? gone : told.sorts.get(what - 10).set;
        for (Sort s : told.sorts) {
            s.set = s.told;
        }
        return result;
    }

    // ---- bakers against one another

    long lots(int a, int b, int low, int high, int what) {
        int[][] p = whole();
        if (p == null || !isBaker(a) || !isBaker(b) || a == b || !isStep(low) || !isStep(high) || low >= high
            || barred(low) || barred(high) || what < 0 || what > 3) {
            return -1;
        }
        long[][] ea = new long[2][2];
        long[][] eb = new long[2][2];
        int[] steps = {low, high};
        for (int i = 0; i < 2; i++) {
            for (int j = 0; j < 2; j++) {
                int[][] q = p.clone();
                q[a] = sureParts(steps[i]);
                q[b] = sureParts(steps[j]);
                ea[i][j] = tradeBy(a, q)[1];
                eb[i][j] = tradeBy(b, q)[1];
            }
        }
        for (int i = 0; i < 2; i++) {
            for (int j = 0; j < 2; j++) {
                if (ea[i][j] >= ea[1 - i][j] && eb[i][j] >= eb[i][1 - j]) {
                    return -1;
                }
            }
        }
        long[][] e = what < 2 ? eb : ea;
        java.math.BigInteger top = java.math.BigInteger.valueOf(e[1][1] - (what < 2 ? e[1][0] : e[0][1]));
        java.math.BigInteger all = java.math.BigInteger.valueOf(e[0][0] - e[0][1] - e[1][0] + e[1][1]);
        java.math.BigInteger by = top.gcd(all);
        if (all.signum() < 0) {
            by = by.negate();
        }
        return (what % 2 == 0 ? top : all).divide(by).longValueExact();
    }

    int chase(int n, int what) {
        boolean ofBaker = isBaker(what - 10);
        int[][] p = whole();
        if (p == null || n < 1 || n > 60 || !ofBaker && (what < 0 || what > 2)) {
            return -1;
        }
        int[] steps = new int[bakers()];
        for (int b = 0; b < bakers(); b++) {
            if (asks[b].kind == 3) {
                return -1;
            }
            steps[b] = -1;
            for (int k = 0; k < 8 && asks[b].kind == 1; k++) {
                steps[b] = p[b][k] > 0 ? k : steps[b];
            }
        }
        List<String> seen = new ArrayList<>();
        seen.add(java.util.Arrays.toString(steps));
        int end = 2;
        int gone = 0;
        int ring = 0;
        while (end == 2 && gone < n) {
            gone++;
            boolean moved = false;
            for (int b = 0; b < bakers(); b++) {
                int best = bestOf(b, p);
                if (earnsAt(b, best, p) > tradeBy(b, p)[1]) {
                    p[b] = sureParts(best);
                    steps[b] = best;
                    moved = true;
                }
            }
            String now = java.util.Arrays.toString(steps);
            if (!moved) {
                end = 0;
            } else if (seen.contains(now)) {
                end = 1;
                ring = gone - seen.indexOf(now);
            }
            seen.add(now);
        }
        return ofBaker ? steps[what - 10] : new int[] {end, gone, ring}[what];
    }

    // ---- laws, mornings, images, counts

    int law(int kind, int step) {
        if (kind < 0 || kind > 2 || step < 0 || step > 7 || laws.size() == 6) {
            return -1;
        }
        laws.add(new int[] {kind, step});
        return laws.size() - 1;
    }

    boolean force(int law) {
        if (law < -1 || law >= laws.size()) {
            return false;
        }
        force = law;
        return true;
    }

    int bestLaw(int s, int what) {
        if (!isSort(s) || what < 0 || what > 1) {
            return -1;
        }
        int kept = force;
        int best = -1;
        int least = -1;
        for (int l = -1; l < laws.size(); l++) {
            force = l;
            List<int[]> found = restRows();
            int mean = found.isEmpty() ? -1 : meanOf(bill(told.sorts.get(s), found.get(0)));
            if (mean >= 0 && (least < 0 || mean < least)) {
                least = mean;
                best = l < 0 ? 9 : l;
            }
        }
        force = kept;
        return what == 0 ? best : least;
    }

    int edge(int b) {
        if (!isBaker(b)) {
            return -1;
        }
        int kept = costs[b];
        int many = rests(-1);
        int first = rests(0);
        int found = -1;
        for (int c = kept + 1; c <= Math.min(99, kept + 20) && found < 0; c++) {
            costs[b] = c;
            if (rests(-1) != many || rests(0) != first) {
                found = c;
            }
        }
        costs[b] = kept;
        return found;
    }

    long run(int seed, int n, int what) {
        int[][] p = whole();
        if (p == null || seed < 0 || seed > 999_999_999 || n < 1 || n > 400) {
            return -1;
        }
        if (!isBaker(what - 10) && !isBaker(what - 20) && !isSort(what - 30)) {
            return -1;
        }
        long z = seed;
        long sum = 0;
        for (int m = 0; m < n; m++) {
            int[] row = new int[bakers()];
            for (int b = 0; b < bakers(); b++) {
                z = z * 6364136223846793005L + 1442695040888963407L;
                long v = (z >>> 33) % 100;
                int up = p[b][0];
                while (up <= v) {
                    row[b]++;
                    up += p[b][row[b]];
                }
            }
            int least = leastPrice((1 << bakers()) - 1, row);
            if (what >= 30) {
                sum += bill(told.sorts.get(what - 30), row)[0];
            } else if (what >= 20) {
                sum += price(row[what - 20]);
            } else {
                sum += price(row[what - 10]) == least ? 1 : 0;
            }
        }
        return sum;
    }

    int image() {
        if (bakers() == 0 || images.size() == 4) {
            return -1;
        }
        Image i = new Image();
        for (int b = 0; b < 4; b++) {
            i.asks[b] = asks[b].copy();
        }
        i.promises = promises;
        i.costs = costs.clone();
        i.force = force;
        images.add(i);
        return images.size() - 1;
    }

    boolean back(int image) {
        if (image < 0 || image >= images.size()) {
            return false;
        }
        Image i = images.get(image);
        for (int b = 0; b < 4; b++) {
            asks[b] = i.asks[b].copy();
        }
        promises = i.promises;
        costs = i.costs.clone();
        force = i.force;
        return true;
    }

    int count(int what) {
        int[][] p = whole();
        switch (what) {
            case 0: return taken;
            case 1: return tape.length();
            case 2: return laws.size();
            case 3: return force;
            case 4: return images.size();
            case 5: return promises;
            case 6: return p == null ? 0 : 1;
            case 7: return p == null ? 0 : likely(p).size();
            case 8: return told.sorts.stream().mapToInt(s -> s.number * sets(s).size()).sum();
            default: return -1;
        }
    }
}
