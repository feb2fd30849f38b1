import java.util.ArrayDeque;
import java.util.ArrayList;
import java.util.Collections;
import java.util.Deque;
import java.util.HashMap;
import java.util.List;
import java.util.Map;
import java.util.TreeSet;

/**
 * The document once more, in the slowest and plainest ways: division by every irreducible one, trying every element,
 * linear equations. Random runs compare the class with it.
 */
final class SlowTriSplits {
    private static final int NONE = -1;
    private static final List<Long> SMALL = smallIrreducibles(15);
    private static final Map<Long, List<Long>> SPLIT = new HashMap<>();
    private static final Map<Long, Long> ORDER = new HashMap<>();

    private long[] p = new long[10];
    private long rule;
    private long state;
    private long gone;
    private Deque<long[]> past = new ArrayDeque<>();
    private final long[][] shelves = new long[2][];
    private final List<Integer> tape = new ArrayList<>();
    private int fault = NONE;
    private int within;
    private int inner = NONE;

    // ---- polynomials

    static int deg(long a) {
        int d = -1;
        for (int i = 0; i < 63; i++) {
            if ((a >> i & 1) == 1) {
                d = i;
            }
        }
        return d;
    }

    static long mul(long a, long b) {
        long r = 0;
        for (int i = 0; i < 32; i++) {
            for (int j = 0; j < 32; j++) {
                if ((a >> i & 1) == 1 && (b >> j & 1) == 1) {
                    r ^= 1L << (i + j);
                }
            }
        }
        return r;
    }

    static long[] divmod(long a, long b) {
        long q = 0;
        int d = deg(b);
        for (int k = 62 - d; k >= 0; k--) {
            if ((a >> (k + d) & 1) == 1) {
                a ^= b << k;
                q |= 1L << k;
            }
        }
        return new long[] {q, a};
    }

    static long mod(long a, long b) {
        return divmod(a, b)[1];
    }

    static long gcd(long a, long b) {
        return b == 0 ? a : gcd(b, mod(a, b));
    }

    static long pow(long a, long e, long m) {
        if (e == 0) {
            return mod(1, m);
        }
        long half = pow(a, e / 2, m);
        long r = mod(mul(half, half), m);
        return e % 2 == 1 ? mod(mul(r, mod(a, m)), m) : r;
    }

    static long rev(long a) {
        long r = 0;
        for (int i = 0; i <= deg(a); i++) {
            if ((a >> i & 1) == 1) {
                r += 1L << (deg(a) - i);
            }
        }
        return r;
    }

    static long der(long a) {
        long r = 0;
        for (int i = 1; i < 32; i += 2) {
            if ((a >> i & 1) == 1) {
                r += 1L << (i - 1);
            }
        }
        return r;
    }

    private static List<Long> smallIrreducibles(int most) {
        boolean[] split = new boolean[2 << most];
        List<Long> found = new ArrayList<>();
        for (int a = 2; a < split.length; a++) {
            if (!split[a]) {
                found.add((long) a);
                for (int b = 2; deg(a) + deg(b) <= most; b++) {
                    split[(int) fastMul(a, b)] = true;
                }
            }
        }
        return found;
    }

    private static long fastMul(long a, long b) {
        long r = 0;
        for (; b != 0; b >>= 1, a <<= 1) {
            r ^= (b & 1) == 1 ? a : 0;
        }
        return r;
    }

    static List<Long> factors(long f) {
        List<Long> known = SPLIT.get(f);
        if (known == null) {
            known = new ArrayList<>();
            long left = f;
            for (int i = 0; i < SMALL.size() && f > 1 && 2 * deg(SMALL.get(i)) <= deg(left); i++) {
                while (deg(left) > 0 && mod(left, SMALL.get(i)) == 0) {
                    known.add(SMALL.get(i));
                    left = divmod(left, SMALL.get(i))[0];
                }
            }
            if (left > 1) {
                known.add(left);
            }
            SPLIT.put(f, known);
        }
        return known;
    }

    static boolean irreducible(long f) {
        return factors(f).size() == 1;
    }

    static List<Long> numberDivisors(long n) {
        List<Long> low = new ArrayList<>();
        List<Long> high = new ArrayList<>();
        for (long d = 1; d * d <= n; d++) {
            if (n % d == 0) {
                low.add(d);
                if (d * d != n) {
                    high.add(n / d);
                }
            }
        }
        Collections.reverse(high);
        low.addAll(high);
        return low;
    }

    static long lcm(long a, long b) {
        long x = a;
        long y = b;
        while (y != 0) {
            long t = x % y;
            x = y;
            y = t;
        }
        return a / x * b;
    }

    static long orderOf(long f) {
        if (f < 2 || f % 2 == 0) {
            return -2;
        }
        Long known = ORDER.get(f);
        if (known != null) {
            return known;
        }
        long bound = 1;
        for (long g : factors(f)) {
            bound = lcm(bound, (1L << deg(g)) - 1);
        }
        // by one FACTOR up to 31 times x to the bound is 1 after at most five squarings
        bound *= 32;
        for (long e : numberDivisors(bound)) {
            if (pow(2, e, f) == mod(1, f)) {
                ORDER.put(f, e);
                return e;
            }
        }
        throw new IllegalStateException("no order of " + f);
    }

    static boolean primitive(long f) {
        return irreducible(f) && orderOf(f) == (1L << deg(f)) - 1;
    }

    static boolean sought(long f, boolean primitive) {
        return primitive ? primitive(f) : irreducible(f);
    }

    /** Solves for r: the sum of the columns that r has is the goal; -1 if there is none. Columns up to 60 bits. */
    static long solve(long[] columns, long goal) {
        int n = columns.length;
        long[] basis = new long[n];
        long[] made = new long[n];
        int have = 0;
        long g = goal;
        long way = 0;
        for (int i = 0; i < n; i++) {
            long v = columns[i];
            long m = 1L << i;
            for (int j = 0; j < have; j++) {
                if ((v ^ basis[j]) < v) {
                    v ^= basis[j];
                    m ^= made[j];
                }
            }
            if (v != 0) {
                basis[have] = v;
                made[have++] = m;
                for (int j = have - 1; j > 0 && basis[j] > basis[j - 1]; j--) {
                    long t = basis[j];
                    basis[j] = basis[j - 1];
                    basis[j - 1] = t;
                    t = made[j];
                    made[j] = made[j - 1];
                    made[j - 1] = t;
                }
            }
        }
        for (int j = 0; j < have; j++) {
            if ((g ^ basis[j]) < g) {
                g ^= basis[j];
                way ^= made[j];
            }
        }
        return g == 0 ? way : -1;
    }

    // ---- the tape and its text

    int feed(int a, int b, int c, int d, int e) {
        if (tape.size() > 280) {
            return NONE;
        }
        for (int w : new int[] {a, b, c, d, e}) {
            tape.add(w >>> 24);
            tape.add(w >>> 16 & 255);
            tape.add(w >>> 8 & 255);
            tape.add(w & 255);
        }
        return tape.size();
    }

    int end(int n) {
        if (n < 0 || n > tape.size()) {
            return NONE;
        }
        tape.subList(n, tape.size()).clear();
        return n;
    }

    private static final class Bad extends RuntimeException {
        private static final long serialVersionUID = 1;
        final int code;
        final int place;

        Bad(int code, int place) {
            this.code = code;
            this.place = place;
        }
    }

    private int pos;
    private List<Integer> open = new ArrayList<>();
    private long[] read;

    private int look() {
        while (pos < tape.size() && tape.get(pos) == 32) {
            pos++;
        }
        return pos < tape.size() ? tape.get(pos) : -1;
    }

    private void sign(char c) {
        if (look() != c) {
            throw new Bad(1, pos);
        }
        pos++;
    }

    private String run(String of) {
        StringBuilder b = new StringBuilder();
        look();
        while (pos < tape.size() && tape.get(pos) < 128 && of.indexOf((char) (int) tape.get(pos)) >= 0) {
            b.append((char) (int) tape.get(pos++));
        }
        return b.toString();
    }

    private int number(int low, int high) {
        look();
        int start = pos;
        String digits = run("0123456789");
        if (digits.isEmpty()) {
            throw new Bad(1, start);
        }
        java.math.BigInteger v = new java.math.BigInteger(digits);
        if (v.compareTo(java.math.BigInteger.valueOf(low)) < 0 || v.compareTo(java.math.BigInteger.valueOf(high)) > 0) {
            throw new Bad(2, start);
        }
        return v.intValue();
    }

    private long sum() {
        long r = product();
        while (look() == '+') {
            pos++;
            r ^= product();
        }
        return r;
    }

    private long product() {
        look();
        int start = pos;
        long r = 1;
        boolean more = true;
        while (more) {
            long f = powered();
            if (r != 0 && f != 0 && deg(r) + deg(f) > 31) {
                throw new Bad(3, start);
            }
            r = mul(r, f);
            int c = look();
            more = c == '*' || c >= '0' && c <= '9' || c >= 'a' && c <= 'z' || c == '(';
            if (c == '*') {
                pos++;
            }
        }
        return r;
    }

    private long powered() {
        look();
        int start = pos;
        long r = one();
        if (look() != '^') {
            return r;
        }
        pos++;
        int e = number(0, 31);
        if (e == 0) {
            return 1;
        }
        if (r == 0) {
            return 0;
        }
        if (deg(r) * e > 31) {
            throw new Bad(3, start);
        }
        long f = r;
        for (int i = 1; i < e; i++) {
            r = mul(r, f);
        }
        return r;
    }

    private long one() {
        int c = look();
        int start = pos;
        if (c >= '0' && c <= '9') {
            return number(0, 1);
        }
        if (c == '(') {
            return nested();
        }
        switch (run("abcdefghijklmnopqrstuvwxyz")) {
            case "x":
                return 2;
            case "p":
                return read[number(0, 9)];
            case "tri":
                int n = number(2, 31);
                return 1 + (1L << n) + (1L << number(1, n - 1));
            case "rev":
                return rev(nested());
            case "der":
                return der(nested());
            default:
                throw new Bad(1, start);
        }
    }

    private long nested() {
        if (look() != '(') {
            throw new Bad(1, pos);
        }
        if (open.size() == 6) {
            throw new Bad(4, pos);
        }
        open.add(pos);
        pos++;
        long r = sum();
        sign(')');
        open.remove(open.size() - 1);
        return r;
    }

    int run() {
        pos = 0;
        open.clear();
        read = p.clone();
        int done = 0;
        try {
            do {
                int to = number(0, 9);
                sign('=');
                read[to] = sum();
                done++;
                if (look() == -1) {
                    break;
                }
                sign(';');
            } while (true);
        } catch (Bad bad) {
            tape.clear();
            fault = 8 * bad.place + bad.code;
            within = open.size();
            inner = open.isEmpty() ? NONE : open.get(open.size() - 1);
            return -2 - fault;
        }
        tape.clear();
        fault = NONE;
        within = 0;
        inner = NONE;
        act();
        p = read;
        return done;
    }

    int fault(int what) {
        return what == 0 ? fault : what == 1 ? within : what == 2 ? inner : NONE;
    }

    // ---- acts

    private long[] all() {
        long[] row = new long[13];
        System.arraycopy(p, 0, row, 0, 10);
        row[10] = rule;
        row[11] = state;
        row[12] = gone;
        return row;
    }

    private void become(long[] row) {
        p = java.util.Arrays.copyOf(row, 10);
        rule = row[10];
        state = row[11];
        gone = row[12];
    }

    private void act() {
        past.addLast(all());
        if (past.size() > 10) {
            past.removeFirst();
        }
    }

    private int set(int to, long v) {
        act();
        p[to] = v;
        return deg(v);
    }

    private static boolean no(int... places) {
        for (int a : places) {
            if (a < 0 || a > 9) {
                return true;
            }
        }
        return false;
    }

    int put(int to, long bits) {
        return no(to) || bits < 0 || bits > 0xFFFFFFFFL ? -5 : set(to, bits);
    }

    int add(int a, int b, int to) {
        return no(a, b, to) ? -5 : set(to, p[a] ^ p[b]);
    }

    int multiply(int a, int b, int to) {
        if (no(a, b, to)) {
            return -5;
        }
        return p[a] != 0 && p[b] != 0 && deg(p[a]) + deg(p[b]) > 31 ? -2 : set(to, mul(p[a], p[b]));
    }

    int divide(int a, int b, int to) {
        return no(a, b, to) ? -5 : p[b] == 0 ? -2 : set(to, divmod(p[a], p[b])[0]);
    }

    int rest(int a, int b, int to) {
        return no(a, b, to) ? -5 : p[b] == 0 ? -2 : set(to, mod(p[a], p[b]));
    }

    int common(int a, int b, int to) {
        return no(a, b, to) ? -5 : set(to, gcd(p[a], p[b]));
    }

    int power(int a, long e, int modulus, int to) {
        if (no(a, modulus, to) || e < 0) {
            return -5;
        }
        return deg(p[modulus]) < 1 ? -2 : set(to, pow(p[a], e, p[modulus]));
    }

    int moved(int a, int to) {
        if (no(a, to)) {
            return -5;
        }
        long r = 0;
        for (int i = 0; i < 32; i++) {
            for (int j = 0; j <= i; j++) {
                // Lucas: i over j is odd just if j's bits are among i's
                if ((p[a] >> i & 1) == 1 && (i & j) == j) {
                    r ^= 1L << j;
                }
            }
        }
        return set(to, r);
    }

    int inside(int a, int b, int modulus, int to) {
        if (no(a, b, modulus, to)) {
            return -5;
        }
        if (deg(p[modulus]) < 1) {
            return -2;
        }
        long r = 0;
        for (int i = 0; i < 32; i++) {
            if ((p[a] >> i & 1) == 1) {
                r ^= pow(p[b], i, p[modulus]);
            }
        }
        return set(to, r);
    }

    int inverse(int a, int modulus, int to) {
        if (no(a, modulus, to)) {
            return -5;
        }
        int n = deg(p[modulus]);
        if (n < 1) {
            return -2;
        }
        long[] columns = new long[n];
        for (int i = 0; i < n; i++) {
            columns[i] = mod(mul(1L << i, mod(p[a], p[modulus])), p[modulus]);
        }
        long r = gcd(p[a], p[modulus]) == 1 ? solve(columns, 1) : -1;
        return r < 0 ? -3 : set(to, r);
    }

    int rise(int a, int m, int to) {
        if (no(a, to) || m < 1 || m > 31) {
            return -5;
        }
        if (deg(p[a]) * m > 31) {
            return -2;
        }
        long r = 0;
        for (int i = 0; i < 32; i++) {
            if ((p[a] >> i & 1) == 1) {
                r += 1L << (i * m);
            }
        }
        return set(to, r);
    }

    int register(int place, long s) {
        if (no(place) || s < 0 || s > Integer.MAX_VALUE) {
            return NONE;
        }
        if (deg(p[place]) < 1 || p[place] % 2 == 0) {
            return -2;
        }
        if (s >= 1L << deg(p[place])) {
            return NONE;
        }
        act();
        rule = p[place];
        state = s;
        gone = 0;
        return deg(rule);
    }

    private static long stepped(long rule, long s) {
        int n = deg(rule);
        long last = 0;
        for (int j = 0; j < n; j++) {
            last ^= s >> j & rule >> j & 1;
        }
        return s / 2 + (last << (n - 1));
    }

    long step(int n) {
        if (n < 1 || n > 60) {
            return NONE;
        }
        if (rule == 0) {
            return -2;
        }
        act();
        long out = 0;
        for (int i = 0; i < n; i++) {
            out += (state % 2) << i;
            state = stepped(rule, state);
        }
        gone += n;
        return out;
    }

    private static long[] times(long[] a, long[] b) {
        long[] c = new long[a.length];
        for (int i = 0; i < b.length; i++) {
            c[i] = apply(a, b[i]);
        }
        return c;
    }

    private static long apply(long[] m, long v) {
        long r = 0;
        for (int i = 0; i < m.length; i++) {
            r ^= (v >> i & 1) == 1 ? m[i] : 0;
        }
        return r;
    }

    /** By squared matrices. */
    private static long jumped(long rule, long s, long n) {
        long[] m = new long[deg(rule)];
        for (int i = 0; i < m.length; i++) {
            m[i] = stepped(rule, 1L << i);
        }
        for (; n > 0; n >>= 1, m = times(m, m)) {
            s = (n & 1) == 1 ? apply(m, s) : s;
        }
        return s;
    }

    long jump(int n) {
        if (n < 1 || n > 1000000000) {
            return NONE;
        }
        if (rule == 0) {
            return -2;
        }
        act();
        state = jumped(rule, state, n);
        gone += n;
        return state;
    }

    int undo() {
        if (past.isEmpty()) {
            return NONE;
        }
        become(past.removeLast());
        return past.size();
    }

    int keep(int shelf) {
        if (shelf < 0 || shelf > 1) {
            return NONE;
        }
        shelves[shelf] = all();
        return 1;
    }

    int back(int shelf) {
        if (shelf < 0 || shelf > 1) {
            return NONE;
        }
        if (shelves[shelf] == null) {
            return -2;
        }
        become(shelves[shelf]);
        past.clear();
        return 1;
    }

    // ---- questions

    long bits(int place) {
        return no(place) ? NONE : p[place];
    }

    int poly(int place, int what) {
        if (no(place)) {
            return -5;
        }
        List<Long> f = factors(p[place]);
        switch (what) {
            case 0:
                return deg(p[place]);
            case 1:
                return Long.toBinaryString(p[place]).replace("0", "").length();
            case 2:
                return Long.toBinaryString(p[place]).replace("0", "").length() % 2;
            case 3:
                return p[place] > 1 && gcd(p[place], der(p[place])) == 1 ? 1 : 0;
            case 4:
                return irreducible(p[place]) ? 1 : 0;
            case 5:
                return primitive(p[place]) ? 1 : 0;
            case 6:
                return f.size();
            case 7:
                return new TreeSet<>(f).size();
            case 8:
                return f.isEmpty() ? 0 : deg(f.get(f.size() - 1));
            default:
                return -5;
        }
    }

    long factor(int place, int k) {
        if (no(place) || k < 0) {
            return NONE;
        }
        List<Long> f = factors(p[place]);
        return k < f.size() ? f.get(k) : -2;
    }

    int ofDegree(int place, int degree) {
        if (no(place) || degree < 1 || degree > 31) {
            return NONE;
        }
        int n = 0;
        for (long f : factors(p[place])) {
            n += deg(f) == degree ? 1 : 0;
        }
        return n;
    }

    long order(int place) {
        return no(place) ? NONE : orderOf(p[place]);
    }

    int swan(int n, int k) {
        if (n < 2 || n > 2000 || k < 1 || k >= n) {
            return NONE;
        }
        if (n % 2 == 0 && k % 2 == 0) {
            return -2;
        }
        if (n % 2 == 1 && k % 2 == 1) {
            return swan(n, n - k);
        }
        if (n % 2 == 0) {
            if (n == 2 * k) {
                return 1;
            }
            int r = n * k / 2 % 4;
            return r == 0 || r == 1 ? 0 : 1;
        }
        int r = n % 8;
        if (2 * n % k == 0) {
            return r == 1 || r == 7 ? 0 : 1;
        }
        return r == 3 || r == 5 ? 0 : 1;
    }

    int evens(int n) {
        if (n < 2 || n > 2000) {
            return NONE;
        }
        int c = 0;
        for (int k = 1; k < n; k++) {
            c += swan(n, k) == 0 ? 1 : 0;
        }
        return c;
    }

    int multiple(int place, int what) {
        if (no(place) || what < 0 || what > 1) {
            return NONE;
        }
        if (deg(p[place]) < 1) {
            return -2;
        }
        for (int n = 2; n <= 300; n++) {
            for (int k = 1; k < n; k++) {
                // pow(2, ..) anew for each would be too slow even here
                if ((powerOfX(n, p[place]) ^ powerOfX(k, p[place]) ^ mod(1, p[place])) == 0) {
                    return what == 0 ? n : k;
                }
            }
        }
        return -2;
    }

    private long rowOf = -1;
    private final long[] row = new long[301];

    private long powerOfX(int n, long f) {
        if (rowOf != f) {
            rowOf = f;
            for (int i = 0; i <= 300; i++) {
                row[i] = pow(2, i, f);
            }
        }
        return row[n];
    }

    long shortest(long bits, int n, int what) {
        if (n < 1 || n > 60 || bits < 0 || bits >= 1L << n || what < 0 || what > 1) {
            return NONE;
        }
        for (int length = 0; ; length++) {
            long[] columns = new long[length];
            long mask = (1L << (n - length)) - 1;
            for (int j = 0; j < length; j++) {
                columns[j] = bits >> j & mask;
            }
            long r = solve(columns, bits >> length & mask);
            if (r >= 0) {
                return what == 0 ? length : 2 * length > n ? -2 : r + (1L << length);
            }
        }
    }

    private static long tri(int n, int k) {
        return (1L << n) + (1L << k) + 1;
    }

    int trinomial(int n, boolean primitive, int i) {
        if (n < 2 || n > 24 || i < -1) {
            return NONE;
        }
        List<Integer> found = new ArrayList<>();
        for (int k = 1; k < n; k++) {
            if (sought(tri(n, k), primitive)) {
                found.add(k);
            }
        }
        return i == -1 ? found.size() : i < found.size() ? found.get(i) : -2;
    }

    long least(int degree, boolean primitive) {
        if (degree < 1 || degree > 20) {
            return NONE;
        }
        for (int w = 1; ; w++) {
            for (long b = 1L << degree; b < 2L << degree; b++) {
                if (Long.bitCount(b) == w && sought(b, primitive)) {
                    return b;
                }
            }
        }
    }

    long many(int degree, boolean primitive) {
        if (degree < 1 || degree > 31) {
            return NONE;
        }
        if (primitive) {
            long n = (1L << degree) - 1;
            long phi = 1;
            for (long q = 2; n > 1; q++) {
                if (q * q > n) {
                    q = n;
                }
                for (int i = 0; n % q == 0; i++) {
                    phi *= i == 0 ? q - 1 : q;
                    n /= q;
                }
            }
            return phi / degree;
        }
        long[] c = new long[degree + 1];
        for (int n = 1; n <= degree; n++) {
            c[n] = 1L << n;
            for (int d = 1; d < n; d++) {
                c[n] -= n % d == 0 ? d * c[d] : 0;
            }
            c[n] /= n;
        }
        return c[degree];
    }

    int stays(int n, int k, int m) {
        if (n < 2 || n > 24 || k < 1 || k >= n || m < 1 || m > 1000) {
            return NONE;
        }
        if (!irreducible(tri(n, k))) {
            return -2;
        }
        long e = orderOf(tri(n, k));
        for (int q = 2; q <= m; q++) {
            boolean prime = true;
            for (int d = 2; d < q; d++) {
                prime &= q % d != 0;
            }
            if (prime && m % q == 0 && (e % q != 0 || ((1L << n) - 1) / e % q == 0)) {
                return 0;
            }
        }
        return 1;
    }

    int bare(int from) {
        if (from < 2 || from > 24) {
            return NONE;
        }
        for (int n = from; n <= 24; n++) {
            if (trinomial(n, false, -1) == 0) {
                return n;
            }
        }
        return -2;
    }

    private boolean element(int a, int modulus) {
        return irreducible(p[modulus]) && deg(p[a]) < deg(p[modulus]);
    }

    long minimal(int a, int modulus) {
        if (no(a, modulus)) {
            return NONE;
        }
        if (!element(a, modulus)) {
            return -2;
        }
        for (int d = 1; ; d++) {
            long[] columns = new long[d];
            for (int i = 0; i < d; i++) {
                columns[i] = pow(p[a], i, p[modulus]);
            }
            long r = solve(columns, pow(p[a], d, p[modulus]));
            if (r >= 0) {
                return r + (1L << d);
            }
        }
    }

    int trace(int a, int modulus) {
        if (no(a, modulus)) {
            return NONE;
        }
        if (!element(a, modulus)) {
            return -2;
        }
        long sum = 0;
        for (int i = 0; i < deg(p[modulus]); i++) {
            sum ^= pow(p[a], 1L << i, p[modulus]);
        }
        return (int) sum;
    }

    int conjugates(int a, int modulus) {
        if (no(a, modulus)) {
            return NONE;
        }
        if (!element(a, modulus)) {
            return -2;
        }
        TreeSet<Long> seen = new TreeSet<>();
        for (int i = 0; i < 40; i++) {
            seen.add(pow(p[a], 1L << i, p[modulus]));
        }
        return seen.size();
    }

    long log(int a, int base, int modulus) {
        if (no(a, base, modulus)) {
            return NONE;
        }
        if (deg(p[modulus]) > 16 || !element(a, modulus) || !element(base, modulus)) {
            return -2;
        }
        long v = 1;
        for (int e = 0; e < 2 << deg(p[modulus]); e++) {
            if (v == p[a]) {
                return e;
            }
            v = mod(fastMul(v, p[base]), p[modulus]);
        }
        return -3;
    }

    int roots(int a, int modulus) {
        if (no(a, modulus)) {
            return NONE;
        }
        if (deg(p[modulus]) > 12 || !irreducible(p[modulus])) {
            return -2;
        }
        int n = 0;
        for (long e = 0; e < 1L << deg(p[modulus]); e++) {
            long v = 0;
            for (int i = deg(p[a]); i >= 0; i--) {
                v = mod(fastMul(v, e), p[modulus]) ^ (p[a] >> i & 1);
            }
            n += v == 0 ? 1 : 0;
        }
        return n;
    }

    long shift(int what) {
        if (what < 0 || what > 3) {
            return NONE;
        }
        if (rule == 0) {
            return -2;
        }
        if (what == 2) {
            for (long e : numberDivisors(orderOf(rule))) {
                if (jumped(rule, state, e) == state) {
                    return e;
                }
            }
        }
        return what == 0 ? deg(rule) : what == 1 ? state : gone;
    }

    private static String text(long a) {
        StringBuilder b = new StringBuilder();
        for (int i = 31; i >= 0; i--) {
            if ((a >> i & 1) == 1) {
                b.append(b.length() > 0 ? "+" : "").append(i == 0 ? "1" : i == 1 ? "x" : "x^" + i);
            }
        }
        return a == 0 ? "0" : b.toString();
    }

    private static int at(String s, int k) {
        return k == -1 ? s.length() : k < s.length() ? s.charAt(k) : -2;
    }

    int letter(int place, int k) {
        return no(place) || k < -1 ? NONE : at(text(p[place]), k);
    }

    int spell(int place, int k) {
        if (no(place) || k < -1) {
            return NONE;
        }
        List<Long> f = factors(p[place]);
        StringBuilder b = new StringBuilder();
        for (long g : new TreeSet<>(f)) {
            int often = Collections.frequency(f, g);
            b.append("(").append(text(g)).append(")").append(often > 1 ? "^" + often : "");
        }
        return at(p[place] < 2 ? text(p[place]) : b.toString(), k);
    }

    long next(int place, boolean primitive) {
        if (no(place)) {
            return NONE;
        }
        for (long b = p[place] + 1; b < 1L << 21; b++) {
            if (sought(b, primitive)) {
                return b;
            }
        }
        return -2;
    }

    private TreeSet<Long> divisors(long a) {
        TreeSet<Long> all = new TreeSet<>();
        if (a != 0) {
            all.add(1L);
        }
        for (long f : factors(a)) {
            for (long d : new ArrayList<>(all)) {
                all.add(mul(d, f));
            }
        }
        return all;
    }

    long divisor(int place, int k) {
        if (no(place) || k < -1) {
            return NONE;
        }
        List<Long> all = new ArrayList<>(divisors(p[place]));
        return k == -1 ? all.size() : k < all.size() ? all.get(k) : -2;
    }

    int couples(int place) {
        if (no(place)) {
            return NONE;
        }
        int n = 0;
        for (long d : divisors(p[place])) {
            long other = divmod(p[place], d)[0];
            n += d <= other && gcd(d, other) == 1 ? 1 : 0;
        }
        return n;
    }

    int mirror(int place, int what) {
        if (no(place) || what < 0 || what > 1) {
            return -5;
        }
        long r = rev(p[place]);
        return what == 1 ? deg(gcd(p[place], r)) : r == p[place] ? 1 : 0;
    }

    int akin(int a, int b) {
        return no(a, b) ? NONE : new TreeSet<>(factors(p[a])).equals(new TreeSet<>(factors(p[b]))) ? 1 : 0;
    }

    int count(int what) {
        int n = 0;
        for (int i = 0; i < 10; i++) {
            n += what == 0 && p[i] != 0 || what == 4 && irreducible(p[i]) ? 1 << i : 0;
            n += what == 5 ? Long.bitCount(p[i]) : 0;
        }
        switch (what) {
            case 0:
            case 4:
            case 5:
                return n;
            case 1:
                return past.size();
            case 2:
                return tape.size();
            case 3:
                return (shelves[0] != null ? 1 : 0) + (shelves[1] != null ? 2 : 0);
            default:
                return NONE;
        }
    }
}
