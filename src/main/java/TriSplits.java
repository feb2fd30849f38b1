/**
 * Polynomials over two, told as texts or by their bits and kept in ten places: arithmetic, how they
 * split, orders, Swan's law, fields, registers that shift. The document is ../shared/DOC.md; its
 * words in capitals are used here in its sense.
 */
public final class TriSplits {
    public static final int NONE = -1;

    /** The answers that the document gives by number alone. */
    private static final int NO_SUCH = -2;
    private static final int NO_RESULT = -3;
    /** NONE is the DEGREE of 0 already, so calls that answer a DEGREE say this for what is none. */
    private static final int WITHOUT = -5;

    private static final long MOST_BITS = 4294967295L;
    private static final long MOST_STATE = 2147483647L;
    private static final int MOST_TRI = 24;
    private static final int MOST_LOG = 16;
    private static final int MOST_ROOTS = 12;

    private final Reader reader = new Reader();
    private final Store store = new Store();
    private final Factors factors = new Factors();
    private final Factors others = new Factors();
    private final Orders orders = new Orders();
    private final Families families = new Families();
    private final Field field = new Field();
    private final Rows rows = new Rows();
    private final Letters letters = new Letters();

    public TriSplits() {
    }

    // ---- the TAPE and its TEXT

    public int feed(int a, int b, int c, int d, int e) {
        Tape tape = reader.tape();
        if (!tape.hasRoom(20)) {
            return NONE;
        }
        tape.write(a);
        tape.write(b);
        tape.write(c);
        tape.write(d);
        tape.write(e);
        return tape.size();
    }

    public int end(int n) {
        return reader.tape().cut(n) ? n : NONE;
    }

    public int run() {
        int done = reader.readText(store);
        reader.tape().cut(0);
        if (reader.latestFault() != NONE) {
            return NO_SUCH - reader.latestFault();
        }
        store.remember();
        reader.handOver(store);
        return done;
    }

    public int fault(int what) {
        switch (what) {
            case 0:
                return reader.latestFault();
            case 1:
                return reader.within();
            case 2:
                return reader.innermost();
            default:
                return NONE;
        }
    }

    // ---- ACTS on PLACES

    public int put(int to, long bits) {
        if (!Store.isPlace(to) || bits < 0 || bits > MOST_BITS) {
            return WITHOUT;
        }
        return place(to, bits);
    }

    public int add(int a, int b, int to) {
        if (!arePlaces(a, b, to)) {
            return WITHOUT;
        }
        return place(to, store.polyAt(a) ^ store.polyAt(b));
    }

    public int multiply(int a, int b, int to) {
        if (!arePlaces(a, b, to)) {
            return WITHOUT;
        }
        long product = Polys.product(store.polyAt(a), store.polyAt(b));
        return product > MOST_BITS ? NO_SUCH : place(to, product);
    }

    public int divide(int a, int b, int to) {
        if (!arePlaces(a, b, to)) {
            return WITHOUT;
        }
        if (store.polyAt(b) == 0) {
            return NO_SUCH;
        }
        return place(to, Polys.quotient(store.polyAt(a), store.polyAt(b)));
    }

    public int rest(int a, int b, int to) {
        if (!arePlaces(a, b, to)) {
            return WITHOUT;
        }
        if (store.polyAt(b) == 0) {
            return NO_SUCH;
        }
        return place(to, Polys.remainder(store.polyAt(a), store.polyAt(b)));
    }

    public int common(int a, int b, int to) {
        if (!arePlaces(a, b, to)) {
            return WITHOUT;
        }
        return place(to, Polys.gcd(store.polyAt(a), store.polyAt(b)));
    }

    public int power(int a, long e, int modulus, int to) {
        if (!arePlaces(a, modulus, to) || e < 0) {
            return WITHOUT;
        }
        if (!isModulus(modulus)) {
            return NO_SUCH;
        }
        return place(to, Polys.powerBy(store.polyAt(a), e, store.polyAt(modulus)));
    }

    public int moved(int a, int to) {
        if (!arePlaces(a, to, to)) {
            return WITHOUT;
        }
        return place(to, Polys.shifted(store.polyAt(a)));
    }

    public int inside(int a, int b, int modulus, int to) {
        if (!arePlaces(a, b, to) || !Store.isPlace(modulus)) {
            return WITHOUT;
        }
        if (!isModulus(modulus)) {
            return NO_SUCH;
        }
        return place(to, Polys.composed(store.polyAt(a), store.polyAt(b), store.polyAt(modulus)));
    }

    public int inverse(int a, int modulus, int to) {
        if (!arePlaces(a, modulus, to)) {
            return WITHOUT;
        }
        if (!isModulus(modulus)) {
            return NO_SUCH;
        }
        long found = Polys.inverseBy(store.polyAt(a), store.polyAt(modulus));
        return found == 0 ? NO_RESULT : place(to, found);
    }

    public int rise(int a, int m, int to) {
        if (!arePlaces(a, to, to) || m < 1 || m > Polys.MOST_DEGREE) {
            return WITHOUT;
        }
        if (Polys.degree(store.polyAt(a)) * m > Polys.MOST_DEGREE) {
            return NO_SUCH;
        }
        return place(to, Polys.risen(store.polyAt(a), m));
    }

    // ---- ACTS on the REGISTER

    public int register(int place, long state) {
        if (!Store.isPlace(place) || state < 0 || state > MOST_STATE) {
            return NONE;
        }
        long rule = store.polyAt(place);
        int n = Polys.degree(rule);
        if (n < 1 || (rule & 1) == 0) {
            return NO_SUCH;
        }
        if (state >> n != 0) {
            return NONE;
        }
        store.remember();
        store.tellRegister(rule, state);
        return n;
    }

    public long step(int n) {
        if (n < 1 || n > 60) {
            return NONE;
        }
        if (!store.hasRegister()) {
            return NO_SUCH;
        }
        long state = store.state();
        long out = 0;
        for (int i = 0; i < n; i++) {
            out |= (state & 1) << i;
            state = Shifts.after(store.rule(), state);
        }
        store.remember();
        store.stepRegister(state, n);
        return out;
    }

    public long jump(int n) {
        if (n < 1 || n > 1000000000) {
            return NONE;
        }
        if (!store.hasRegister()) {
            return NO_SUCH;
        }
        long state = Shifts.behind(store.rule(), store.state(), n);
        store.remember();
        store.stepRegister(state, n);
        return state;
    }

    // ---- UNDONE, KEPT

    public int undo() {
        return store.goBack() ? store.undoable() : NONE;
    }

    public int keep(int shelf) {
        return store.keepOn(shelf) ? 1 : NONE;
    }

    public int back(int shelf) {
        if (!Store.isShelf(shelf)) {
            return NONE;
        }
        return store.takeFrom(shelf) ? 1 : NO_SUCH;
    }

    // ---- a PLACE's POLY and its FACTORS

    public long bits(int place) {
        return Store.isPlace(place) ? store.polyAt(place) : NONE;
    }

    public int poly(int place, int what) {
        if (!Store.isPlace(place) || what < 0 || what > 8) {
            return WITHOUT;
        }
        long poly = store.polyAt(place);
        switch (what) {
            case 0:
                return Polys.degree(poly);
            case 1:
                return Long.bitCount(poly);
            case 2:
                return Long.bitCount(poly) & 1;
            case 4:
                return Polys.isIrreducible(poly) ? 1 : 0;
            case 5:
                return orders.isSought(poly, true) ? 1 : 0;
            default:
                factors.split(poly);
                return howSplit(what);
        }
    }

    public long factor(int place, int k) {
        if (!Store.isPlace(place) || k < 0) {
            return NONE;
        }
        factors.split(store.polyAt(place));
        long found = factors.inOrder(k);
        return found == 0 ? NO_SUCH : found;
    }

    public int ofDegree(int place, int degree) {
        if (!Store.isPlace(place) || degree < 1 || degree > Polys.MOST_DEGREE) {
            return NONE;
        }
        factors.split(store.polyAt(place));
        return factors.ofOneDegree(degree);
    }

    public long order(int place) {
        if (!Store.isPlace(place)) {
            return NONE;
        }
        long poly = store.polyAt(place);
        return poly < 2 || (poly & 1) == 0 ? NO_SUCH : orderOf(poly);
    }

    public long divisor(int place, int k) {
        if (!Store.isPlace(place) || k < NONE) {
            return NONE;
        }
        int many = 0;
        if (store.polyAt(place) != 0) {
            factors.split(store.polyAt(place));
            many = rows.gatherDivisors(factors);
        }
        if (k == NONE) {
            return many;
        }
        return k < many ? rows.risingDivisor(k) : NO_SUCH;
    }

    public int couples(int place) {
        if (!Store.isPlace(place)) {
            return NONE;
        }
        if (store.polyAt(place) == 0) {
            return 0;
        }
        factors.split(store.polyAt(place));
        return factors.unlike() == 0 ? 1 : 1 << (factors.unlike() - 1);
    }

    public int mirror(int place, int what) {
        if (!Store.isPlace(place) || what < 0 || what > 1) {
            return WITHOUT;
        }
        long poly = store.polyAt(place);
        long image = Polys.reversed(poly);
        if (what == 0) {
            return image == poly ? 1 : 0;
        }
        return Polys.degree(Polys.gcd(poly, image));
    }

    public int akin(int a, int b) {
        if (!arePlaces(a, b, b)) {
            return NONE;
        }
        factors.split(store.polyAt(a));
        others.split(store.polyAt(b));
        return factors.hasSameAs(others) ? 1 : 0;
    }

    public int letter(int place, int k) {
        if (!Store.isPlace(place) || k < NONE) {
            return NONE;
        }
        letters.restart();
        letters.writePoly(store.polyAt(place));
        return letterAt(k);
    }

    public int spell(int place, int k) {
        if (!Store.isPlace(place) || k < NONE) {
            return NONE;
        }
        long poly = store.polyAt(place);
        letters.restart();
        if (poly < 2) {
            letters.writePoly(poly);
        } else {
            factors.split(poly);
            letters.writeFactors(factors);
        }
        return letterAt(k);
    }

    // ---- SWAN, multiples, rules

    public int swan(int n, int k) {
        return isTri(n, k, Families.MOST_SWAN) ? Families.swanParity(n, k) : NONE;
    }

    public int evens(int n) {
        return n < 2 || n > Families.MOST_SWAN ? NONE : Families.countEven(n);
    }

    public int multiple(int place, int what) {
        if (!Store.isPlace(place) || what < 0 || what > 1) {
            return NONE;
        }
        if (store.polyAt(place) < 2 || !rows.findMultiple(store.polyAt(place))) {
            return NO_SUCH;
        }
        return what == 0 ? rows.multipleN() : rows.multipleK();
    }

    public long shortest(long bits, int n, int what) {
        if (n < 1 || n > 60 || bits < 0 || bits >> n != 0 || what < 0 || what > 1) {
            return NONE;
        }
        long rule = Shifts.shortestRule(bits, n);
        int length = Polys.degree(rule);
        if (what == 0) {
            return length;
        }
        return 2 * length > n ? NO_SUCH : rule;
    }

    public long shift(int what) {
        if (what < 0 || what > 3) {
            return NONE;
        }
        if (!store.hasRegister()) {
            return NO_SUCH;
        }
        switch (what) {
            case 0:
                return Polys.degree(store.rule());
            case 1:
                return store.state();
            case 2:
                return orders.period(store.rule(), store.state(), orderOf(store.rule()));
            default:
                return store.gone();
        }
    }

    // ---- families of POLYS

    public int trinomial(int n, boolean primitive, int i) {
        if (n < 2 || n > MOST_TRI || i < NONE) {
            return NONE;
        }
        if (i == NONE) {
            return families.countTris(n, primitive);
        }
        int found = families.triAt(n, primitive, i);
        return found == 0 ? NO_SUCH : found;
    }

    public long least(int degree, boolean primitive) {
        if (degree < 1 || degree > Families.MOST_SOUGHT) {
            return NONE;
        }
        return families.lightest(degree, primitive);
    }

    public long many(int degree, boolean primitive) {
        if (degree < 1 || degree > Polys.MOST_DEGREE) {
            return NONE;
        }
        return primitive ? orders.countPrimitive(degree) : Families.countIrreducible(degree);
    }

    public int stays(int n, int k, int m) {
        if (!isTri(n, k, MOST_TRI) || m < 1 || m > 1000) {
            return NONE;
        }
        long tri = Polys.tri(n, k);
        if (!Polys.isIrreducible(tri)) {
            return NO_SUCH;
        }
        return orders.staysRisen(tri, m) ? 1 : 0;
    }

    public int bare(int from) {
        if (from < 2 || from > MOST_TRI) {
            return NONE;
        }
        for (int n = from; n <= MOST_TRI; n++) {
            if (families.triAt(n, false, 0) == 0) {
                return n;
            }
        }
        return NO_SUCH;
    }

    public long next(int place, boolean primitive) {
        if (!Store.isPlace(place)) {
            return NONE;
        }
        long found = families.nextAbove(store.polyAt(place), primitive);
        return found == 0 ? NO_SUCH : found;
    }

    // ---- FIELDS

    public long minimal(int a, int modulus) {
        if (!arePlaces(a, modulus, a)) {
            return NONE;
        }
        return isElement(a, modulus) ? field.leastPoly(store.polyAt(a), store.polyAt(modulus)) : NO_SUCH;
    }

    public int trace(int a, int modulus) {
        if (!arePlaces(a, modulus, a)) {
            return NONE;
        }
        return isElement(a, modulus) ? Field.traceOf(store.polyAt(a), store.polyAt(modulus)) : NO_SUCH;
    }

    public int conjugates(int a, int modulus) {
        if (!arePlaces(a, modulus, a)) {
            return NONE;
        }
        return isElement(a, modulus) ? Field.unlikeConjugates(store.polyAt(a), store.polyAt(modulus)) : NO_SUCH;
    }

    public long log(int a, int base, int modulus) {
        if (!arePlaces(a, base, modulus)) {
            return NONE;
        }
        long by = store.polyAt(modulus);
        if (Polys.degree(by) > MOST_LOG || !isElement(a, modulus) || !isElement(base, modulus)) {
            return NO_SUCH;
        }
        long found = field.logarithm(store.polyAt(a), store.polyAt(base), by);
        return found == NONE ? NO_RESULT : found;
    }

    public int roots(int a, int modulus) {
        if (!arePlaces(a, modulus, a)) {
            return NONE;
        }
        int n = Polys.degree(store.polyAt(modulus));
        if (n > MOST_ROOTS || !Polys.isIrreducible(store.polyAt(modulus))) {
            return NO_SUCH;
        }
        return Field.countRoots(store.polyAt(a), n);
    }

    public int count(int what) {
        switch (what) {
            case 0:
                return store.nonzeroPlaces();
            case 1:
                return store.undoable();
            case 2:
                return reader.tape().size();
            case 3:
                return store.keptShelves();
            case 4:
                return store.irreduciblePlaces();
            case 5:
                return store.allWeights();
            default:
                return NONE;
        }
    }

    // ---- what several calls share

    private static boolean arePlaces(int a, int b, int c) {
        return Store.isPlace(a) && Store.isPlace(b) && Store.isPlace(c);
    }

    private static boolean isTri(int n, int k, int most) {
        return n >= 2 && n <= most && k >= 1 && k < n;
    }

    private boolean isModulus(int place) {
        return Polys.degree(store.polyAt(place)) >= 1;
    }

    private boolean isElement(int a, int modulus) {
        long by = store.polyAt(modulus);
        return Polys.degree(store.polyAt(a)) < Polys.degree(by) && Polys.isIrreducible(by);
    }

    private int place(int to, long poly) {
        store.remember();
        store.write(to, poly);
        return Polys.degree(poly);
    }

    private int howSplit(int what) {
        switch (what) {
            case 3:
                return factors.all() > 0 && factors.all() == factors.unlike() ? 1 : 0;
            case 6:
                return factors.all();
            case 7:
                return factors.unlike();
            default:
                return factors.greatestDegree();
        }
    }

    private long orderOf(long poly) {
        factors.split(poly);
        return orders.ofSplit(factors);
    }

    private int letterAt(int k) {
        if (k == NONE) {
            return letters.size();
        }
        return k < letters.size() ? letters.byteAt(k) : NO_SUCH;
    }

    /** Bytes that are fed before they are read as a TEXT. */
    static final class Tape {
        static final int MOST = 300;

        private final byte[] bytes = new byte[MOST];
        private int size;

        int size() {
            return size;
        }

        boolean hasRoom(int more) {
            return size + more <= MOST;
        }

        /** The byte at a place, 0 to 255; NONE where there is none. */
        int at(int place) {
            return place >= 0 && place < size && place < bytes.length ? bytes[place] & 255 : NONE;
        }

        void write(int word) {
            for (int shift = 24; shift >= 0; shift -= 8) {
                if (size >= 0 && size < bytes.length) {
                    bytes[size] = (byte) (word >>> shift);
                    size++;
                }
            }
        }

        boolean cut(int n) {
            if (n < 0 || n > size) {
                return false;
            }
            size = n;
            return true;
        }
    }

    /** Reads the TAPE as a TEXT; does its STATEMENTS on PLACES of its own, so that a FAULT costs nothing. */
    static final class Reader {
        private static final int MISPLACED = 1;
        private static final int BAD_NUMBER = 2;
        private static final int TOO_HIGH = 3;
        private static final int TOO_DEEP = 4;
        private static final int MOST_OPEN = 6;
        /** Above every NUMBER that can stand, and low enough that ten times it is no overflow. */
        private static final int TOO_LARGE = 1000;

        private final Tape tape = new Tape();
        private final long[] polys = new long[Store.PLACES];
        private final int[] opened = new int[MOST_OPEN];
        private int at;
        private int open;
        private int fault = NONE;
        private int within;
        private int innermost = NONE;

        Tape tape() {
            return tape;
        }

        int latestFault() {
            return fault;
        }

        int within() {
            return within;
        }

        int innermost() {
            return innermost;
        }

        /** How many STATEMENTS there are; what it answers with a FAULT does not matter. */
        int readText(Store store) {
            for (int i = 0; i < polys.length; i++) {
                polys[i] = store.polyAt(i);
            }
            at = 0;
            open = 0;
            fault = NONE;
            within = 0;
            innermost = NONE;
            int done = 0;
            for (int i = 0; i < Tape.MOST; i++) {
                readStatement();
                done++;
                if (fault != NONE || peek() == NONE || !readSign(';')) {
                    break;
                }
            }
            return done;
        }

        void handOver(Store store) {
            for (int i = 0; i < polys.length; i++) {
                store.write(i, polys[i]);
            }
        }

        private long fail(int code, int place) {
            fault = 8 * place + code;
            within = open;
            innermost = open > 0 && open <= opened.length ? opened[open - 1] : NONE;
            return 0;
        }

        /** The byte ahead behind blanks, NONE at the end. */
        private int peek() {
            for (int i = at; i < tape.size() && tape.at(i) == ' '; i++) {
                at = i + 1;
            }
            return tape.at(at);
        }

        private boolean readSign(char sign) {
            if (peek() != sign) {
                fail(MISPLACED, at);
                return false;
            }
            at++;
            return true;
        }

        private void readStatement() {
            int to = readNumber(0, Store.PLACES - 1);
            if (fault != NONE || !readSign('=')) {
                return;
            }
            long sum = readSum();
            if (fault == NONE && to >= 0 && to < polys.length) {
                polys[to] = sum;
            }
        }

        private long readSum() {
            long sum = readProduct();
            for (int i = 0; i < Tape.MOST && fault == NONE && peek() == '+'; i++) {
                at++;
                sum ^= readProduct();
            }
            return sum;
        }

        private long readProduct() {
            peek();
            int start = at;
            long product = readPower();
            for (int i = 0; i < Tape.MOST && fault == NONE && isPowerAhead(); i++) {
                long power = readPower();
                if (fault == NONE) {
                    product = Polys.product(product, power);
                    if (product > MOST_BITS) {
                        return fail(TOO_HIGH, start);
                    }
                }
            }
            return product;
        }

        /** Whether the PRODUCT goes on; a * is read then, and binds to what comes. */
        private boolean isPowerAhead() {
            int sign = peek();
            if (sign == '*') {
                at++;
                return true;
            }
            return sign == '(' || isDigit(sign) || isSmallLetter(sign);
        }

        private long readPower() {
            peek();
            int start = at;
            long one = readOne();
            if (fault != NONE || peek() != '^') {
                return one;
            }
            at++;
            int exponent = readNumber(0, Polys.MOST_DEGREE);
            if (fault != NONE) {
                return 0;
            }
            if (Polys.degree(one) * exponent > Polys.MOST_DEGREE) {
                return fail(TOO_HIGH, start);
            }
            long power = 1;
            for (int i = 0; i < exponent; i++) {
                power = Polys.product(power, one);
            }
            return power;
        }

        private long readOne() {
            int sign = peek();
            if (isDigit(sign)) {
                return readNumber(0, 1);
            }
            if (sign == '(') {
                return readNested();
            }
            int start = at;
            readLetters();
            if (isWord(start, "x")) {
                return 2;
            }
            if (isWord(start, "p")) {
                int place = readNumber(0, Store.PLACES - 1);
                return place >= 0 && place < polys.length ? polys[place] : 0;
            }
            if (isWord(start, "tri")) {
                return readTri();
            }
            if (isWord(start, "rev")) {
                return Polys.reversed(readNested());
            }
            if (isWord(start, "der")) {
                return Polys.derived(readNested());
            }
            return fail(MISPLACED, start);
        }

        private long readTri() {
            int n = readNumber(2, Polys.MOST_DEGREE);
            if (fault != NONE) {
                return 0;
            }
            int k = readNumber(1, n - 1);
            return fault == NONE ? Polys.tri(n, k) : 0;
        }

        private long readNested() {
            if (peek() != '(') {
                return fail(MISPLACED, at);
            }
            if (open < 0 || open >= opened.length) {
                return fail(TOO_DEEP, at);
            }
            opened[open] = at;
            open++;
            at++;
            long sum = readSum();
            if (fault == NONE && readSign(')')) {
                open--;
            }
            return sum;
        }

        /** A NUMBER between two bounds; the lower one with a FAULT. */
        private int readNumber(int low, int high) {
            if (!isDigit(peek())) {
                fail(MISPLACED, at);
                return low;
            }
            int start = at;
            int value = 0;
            for (int i = at; i < tape.size() && isDigit(tape.at(i)); i++) {
                value = Math.min(10 * value + tape.at(i) - '0', TOO_LARGE);
                at = i + 1;
            }
            if (value < low || value > high) {
                fail(BAD_NUMBER, start);
                return low;
            }
            return value;
        }

        private void readLetters() {
            for (int i = at; i < tape.size() && isSmallLetter(tape.at(i)); i++) {
                at = i + 1;
            }
        }

        private boolean isWord(int start, String word) {
            if (at - start != word.length()) {
                return false;
            }
            for (int i = 0; i < word.length(); i++) {
                if (tape.at(start + i) != word.charAt(i)) {
                    return false;
                }
            }
            return true;
        }

        private static boolean isDigit(int sign) {
            return sign >= '0' && sign <= '9';
        }

        private static boolean isSmallLetter(int sign) {
            return sign >= 'a' && sign <= 'z';
        }
    }

    /** What ACTS change, as one row of numbers, so that rows of the past and of SHELVES are plain copies. */
    static final class Store {
        static final int PLACES = 10;

        private static final int RULE = 10;
        private static final int STATE = 11;
        private static final int GONE = 12;
        private static final int WIDTH = 13;
        private static final int MOST_ACTS = 10;
        private static final int SHELVES = 2;

        private final long[] now = new long[WIDTH];
        private final long[] past = new long[MOST_ACTS * WIDTH];
        private final long[] shelves = new long[SHELVES * WIDTH];
        private int undoable;
        private int slot;
        private int kept;

        static boolean isPlace(int place) {
            return place >= 0 && place < PLACES;
        }

        static boolean isShelf(int shelf) {
            return shelf >= 0 && shelf < SHELVES;
        }

        long polyAt(int place) {
            return isPlace(place) && place < now.length ? now[place] : 0;
        }

        void write(int place, long poly) {
            if (isPlace(place) && place < now.length) {
                now[place] = poly;
            }
        }

        /** A rule of 0 is no REGISTER. */
        boolean hasRegister() {
            return now[RULE] != 0;
        }

        long rule() {
            return now[RULE];
        }

        long state() {
            return now[STATE];
        }

        long gone() {
            return now[GONE];
        }

        void tellRegister(long rule, long state) {
            now[RULE] = rule;
            now[STATE] = state;
            now[GONE] = 0;
        }

        void stepRegister(long state, int steps) {
            now[STATE] = state;
            now[GONE] += steps;
        }

        int undoable() {
            return undoable;
        }

        int keptShelves() {
            return kept;
        }

        /** Called ahead of each ACT. The past is a ring: the eleventh ACT takes the oldest one's slot. */
        void remember() {
            copyRow(now, 0, past, slot);
            slot = (slot + 1) % MOST_ACTS;
            undoable = Math.min(undoable + 1, MOST_ACTS);
        }

        boolean goBack() {
            if (undoable <= 0) {
                return false;
            }
            slot = (slot + MOST_ACTS - 1) % MOST_ACTS;
            undoable--;
            copyRow(past, slot, now, 0);
            return true;
        }

        boolean keepOn(int shelf) {
            if (!isShelf(shelf)) {
                return false;
            }
            copyRow(now, 0, shelves, shelf);
            kept |= 1 << shelf;
            return true;
        }

        boolean takeFrom(int shelf) {
            if (!isShelf(shelf) || (kept >> shelf & 1) == 0) {
                return false;
            }
            copyRow(shelves, shelf, now, 0);
            undoable = 0;
            return true;
        }

        int nonzeroPlaces() {
            int set = 0;
            for (int i = 0; i < PLACES; i++) {
                if (polyAt(i) != 0) {
                    set |= 1 << i;
                }
            }
            return set;
        }

        int irreduciblePlaces() {
            int set = 0;
            for (int i = 0; i < PLACES; i++) {
                if (Polys.isIrreducible(polyAt(i))) {
                    set |= 1 << i;
                }
            }
            return set;
        }

        int allWeights() {
            int sum = 0;
            for (int i = 0; i < PLACES; i++) {
                sum += Long.bitCount(polyAt(i));
            }
            return sum;
        }

        private static void copyRow(long[] from, int row, long[] to, int goal) {
            int start = row * WIDTH;
            int end = goal * WIDTH;
            if (start >= 0 && start + WIDTH <= from.length && end >= 0 && end + WIDTH <= to.length) {
                System.arraycopy(from, start, to, end, WIDTH);
            }
        }
    }

    /** POLYS by their BITS. A product of two has DEGREE 62 at the most, so a long has room for it. */
    static final class Polys {
        static final int MOST_DEGREE = 31;
        private static final int X = 2;
        /** More rounds than any Euclid's chain over longs has. */
        private static final int ROUNDS = 64;

        private Polys() {
        }

        static int degree(long poly) {
            return 63 - Long.numberOfLeadingZeros(poly);
        }

        static long tri(int n, int k) {
            return 1L << n | 1L << k | 1;
        }

        static long product(long a, long b) {
            long sum = 0;
            for (int i = 63 - Long.numberOfLeadingZeros(b); i >= 0; i--) {
                if ((b >> i & 1) != 0) {
                    sum ^= a << i;
                }
            }
            return sum;
        }

        /** The POLY with a 0 put between its bits, which over two is its square. */
        static long square(long a) {
            long wide = (a | a << 16) & 0x0000FFFF0000FFFFL;
            wide = (wide | wide << 8) & 0x00FF00FF00FF00FFL;
            wide = (wide | wide << 4) & 0x0F0F0F0F0F0F0F0FL;
            wide = (wide | wide << 2) & 0x3333333333333333L;
            return (wide | wide << 1) & 0x5555555555555555L;
        }

        /** By 0 it is 0; calls look at their divisor ahead. */
        static long quotient(long a, long by) {
            int n = degree(by);
            long often = 0;
            long left = a;
            for (int i = 0; i < ROUNDS && n >= 0 && degree(left) >= n; i++) {
                int more = degree(left) - n;
                often |= 1L << more;
                left ^= by << more;
            }
            return often;
        }

        static long remainder(long a, long by) {
            int zeros = Long.numberOfLeadingZeros(by);
            long left = a;
            for (int i = 0; i < ROUNDS && by != 0; i++) {
                int higher = zeros - Long.numberOfLeadingZeros(left);
                if (higher < 0) {
                    break;
                }
                left ^= by << higher;
            }
            return left;
        }

        static long gcd(long a, long b) {
            long one = a;
            long other = b;
            for (int i = 0; i < ROUNDS && other != 0; i++) {
                long rest = remainder(one, other);
                one = other;
                other = rest;
            }
            return one;
        }

        static long productBy(long a, long b, long modulus) {
            return remainder(product(a, b), modulus);
        }

        static long squareBy(long a, long modulus) {
            return remainder(square(a), modulus);
        }

        static long powerBy(long a, long e, long modulus) {
            long base = remainder(a, modulus);
            long power = remainder(1, modulus);
            for (int i = degree(e); i >= 0; i--) {
                power = remainder(square(power), modulus);
                if ((e >> i & 1) != 0) {
                    power = remainder(product(power, base), modulus);
                }
            }
            return power;
        }

        /** Euclid's chain, with how often a is in each of its rests; 0 where there is no inverse. */
        static long inverseBy(long a, long modulus) {
            long last = modulus;
            long rest = remainder(a, modulus);
            long lastOften = 0;
            long often = 1;
            for (int i = 0; i < ROUNDS && rest != 0; i++) {
                long times = quotient(last, rest);
                long lower = last ^ product(times, rest);
                long lowerOften = lastOften ^ product(times, often);
                last = rest;
                rest = lower;
                lastOften = often;
                often = lowerOften;
            }
            return last == 1 ? remainder(lastOften, modulus) : 0;
        }

        static long composed(long a, long b, long modulus) {
            long value = 0;
            for (int i = degree(a); i >= 0; i--) {
                value = productBy(value, b, modulus) ^ (a >> i & 1);
            }
            return value;
        }

        /** With x and 1 in place of x. */
        static long shifted(long a) {
            long value = 0;
            for (int i = degree(a); i >= 0; i--) {
                value = value << 1 ^ value ^ (a >> i & 1);
            }
            return value;
        }

        static long risen(long a, int m) {
            long sum = 0;
            for (int i = degree(a); i >= 0; i--) {
                if ((a >> i & 1) != 0 && i * m < ROUNDS) {
                    sum |= 1L << i * m;
                }
            }
            return sum;
        }

        static long reversed(long a) {
            int n = degree(a);
            long sum = 0;
            for (int i = 0; i <= n; i++) {
                sum |= (a >> i & 1) << n - i;
            }
            return sum;
        }

        static long derived(long a) {
            return a >> 1 & 0x5555555555555555L;
        }

        /** No divisor of DEGREE to a half of its own: such ones are in x to the 2 to the d less x. */
        static boolean isIrreducible(long poly) {
            int n = degree(poly);
            if (n < 2) {
                return n == 1;
            }
            if ((poly & 1) == 0 || (Long.bitCount(poly) & 1) == 0) {
                return false;
            }
            long frobenius = X;
            for (int d = 1; 2 * d <= n; d++) {
                frobenius = squareBy(frobenius, poly);
                if (gcd(poly, frobenius ^ X) != 1) {
                    return false;
                }
            }
            return true;
        }
    }

    /** The FACTORS of one POLY: the unlike ones in order, and how often each is in it. */
    static final class Factors {
        private static final int MOST = 31;
        private static final int X = 2;

        private final long[] bases = new long[MOST];
        private final int[] times = new int[MOST];
        private final long[] parts = new long[MOST];
        private int unlike;
        private int all;

        int unlike() {
            return unlike;
        }

        int all() {
            return all;
        }

        long base(int i) {
            return i >= 0 && i < unlike && i < bases.length ? bases[i] : 0;
        }

        int often(int i) {
            return i >= 0 && i < unlike && i < times.length ? times[i] : 0;
        }

        int greatestDegree() {
            return unlike == 0 ? 0 : Polys.degree(base(unlike - 1));
        }

        int ofOneDegree(int degree) {
            int sum = 0;
            for (int i = 0; i < unlike; i++) {
                if (Polys.degree(base(i)) == degree) {
                    sum += often(i);
                }
            }
            return sum;
        }

        /** The k-th FACTOR, each as often as it is there; 0 if there are not so many. */
        long inOrder(int k) {
            int left = k;
            for (int i = 0; i < unlike; i++) {
                if (left < often(i)) {
                    return base(i);
                }
                left -= often(i);
            }
            return 0;
        }

        boolean hasSameAs(Factors other) {
            if (other == null || unlike != other.unlike) {
                return false;
            }
            for (int i = 0; i < unlike; i++) {
                if (base(i) != other.base(i)) {
                    return false;
                }
            }
            return true;
        }

        /**
         * Takes out the FACTORS of DEGREE 1, 2, ..: those of DEGREE d are what is left has in common
         * with x to the 2 to the d less x. What is left below 2 d is IRREDUCIBLE.
         */
        void split(long poly) {
            unlike = 0;
            all = 0;
            long left = poly;
            long frobenius = X;
            for (int d = 1; d <= MOST; d++) {
                if (Polys.degree(left) < 2 * d) {
                    break;
                }
                frobenius = Polys.squareBy(frobenius, left);
                int many = partInto(Polys.gcd(left, frobenius ^ X), d);
                sortParts(many);
                for (int i = 0; i < many && i < parts.length; i++) {
                    left = takeOut(left, parts[i]);
                }
                frobenius = Polys.remainder(frobenius, left);
            }
            if (left > 1) {
                note(left, 1);
            }
        }

        /** Notes a FACTOR as often as it is there; answers what is left without it. */
        private long takeOut(long whole, long factor) {
            long left = whole;
            int found = 0;
            for (int i = 0; i < MOST && Polys.remainder(left, factor) == 0; i++) {
                left = Polys.quotient(left, factor);
                found++;
            }
            note(factor, found);
            return left;
        }

        /**
         * How many FACTORS of DEGREE d there are, told in parts. The TRACES of the powers of x are 0 or 1
         * by each FACTOR, and any two FACTORS differ in one of them; of an even power it is as of its half.
         */
        private int partInto(long joint, int d) {
            int n = Polys.degree(joint);
            if (n < 1 || d < 1) {
                return 0;
            }
            parts[0] = joint;
            int many = 1;
            for (int i = 1; i < n && many * d < n; i += 2) {
                long conjugate = Polys.powerBy(X, i, joint);
                long sum = conjugate;
                for (int j = 1; j < d; j++) {
                    conjugate = Polys.squareBy(conjugate, joint);
                    sum ^= conjugate;
                }
                many = cutParts(many, sum);
            }
            return many;
        }

        private int cutParts(int many, long by) {
            int grown = many;
            for (int i = 0; i < many && i < parts.length; i++) {
                long cut = Polys.gcd(parts[i], by);
                if (cut != 1 && cut != parts[i] && grown < parts.length) {
                    parts[grown] = Polys.quotient(parts[i], cut);
                    parts[i] = cut;
                    grown++;
                }
            }
            return grown;
        }

        private void sortParts(int many) {
            for (int i = 1; i < many && i < parts.length; i++) {
                long part = parts[i];
                int goal = i;
                for (int j = i - 1; j >= 0 && parts[j] > part; j--) {
                    parts[j + 1] = parts[j];
                    goal = j;
                }
                parts[goal] = part;
            }
        }

        private void note(long base, int often) {
            if (unlike < bases.length && unlike < times.length) {
                bases[unlike] = base;
                times[unlike] = often;
                unlike++;
                all += often;
            }
        }
    }

    /** ORDERS, and what goes by the primes of a number. */
    static final class Orders {
        private static final int MOST_PRIMES = 16;
        /** The square of this is above every number that is asked for. */
        private static final long MOST_ROOT = 65536;
        private static final int X = 2;

        private final long[] primes = new long[MOST_PRIMES];
        private int many;

        /** IRREDUCIBLE, and PRIMITIVE where that is asked. */
        boolean isSought(long poly, boolean primitive) {
            if (!Polys.isIrreducible(poly)) {
                return false;
            }
            return !primitive || poly != X && ofIrreducible(poly) == (1L << Polys.degree(poly)) - 1;
        }

        /** For an IRREDUCIBLE POLY that is not x. */
        long ofIrreducible(long poly) {
            long order = (1L << Polys.degree(poly)) - 1;
            findPrimes(order);
            for (int i = 0; i < many && i < primes.length; i++) {
                long prime = primes[i];
                for (int j = 0; j < 64 && prime > 1 && order % prime == 0; j++) {
                    if (Polys.powerBy(X, order / prime, poly) != 1) {
                        break;
                    }
                    order /= prime;
                }
            }
            return order;
        }

        /** By one FACTOR as often as t the ORDER is twice as much for each doubling from 1 to t and above. */
        long ofSplit(Factors factors) {
            long joint = 1;
            int most = 1;
            for (int i = 0; i < factors.unlike(); i++) {
                joint = leastMultiple(joint, ofIrreducible(factors.base(i)));
                most = Math.max(most, factors.often(i));
            }
            for (int doubled = 1; doubled < most; doubled *= 2) {
                joint *= 2;
            }
            return joint;
        }

        /** The least STEPS that bring a state back; they divide the ORDER of the rule. */
        long period(long rule, long state, long order) {
            long period = order;
            findPrimes(order);
            for (int i = 0; i < many && i < primes.length; i++) {
                long prime = primes[i];
                for (int j = 0; j < 64 && prime > 1 && period % prime == 0; j++) {
                    if (Shifts.behind(rule, state, period / prime) != state) {
                        break;
                    }
                    period /= prime;
                }
            }
            return period;
        }

        long countPrimitive(int degree) {
            long all = (1L << degree) - 1;
            long coprime = all;
            findPrimes(all);
            for (int i = 0; i < many && i < primes.length; i++) {
                if (primes[i] > 1) {
                    coprime -= coprime / primes[i];
                }
            }
            return degree > 0 ? coprime / degree : 0;
        }

        /** The law of RISEN ones, for an IRREDUCIBLE TRI. */
        boolean staysRisen(long poly, int m) {
            long order = ofIrreducible(poly);
            if (order < 1) {
                return false;
            }
            long often = ((1L << Polys.degree(poly)) - 1) / order;
            findPrimes(m);
            for (int i = 0; i < many && i < primes.length; i++) {
                long prime = primes[i];
                if (prime < 2 || order % prime != 0 || often % prime == 0) {
                    return false;
                }
            }
            return true;
        }

        private void findPrimes(long number) {
            many = 0;
            long left = number;
            for (long p = 2; p <= MOST_ROOT && p * p <= left; p += p == 2 ? 1 : 2) {
                if (left % p == 0) {
                    notePrime(p);
                    for (int i = 0; i < 64 && left % p == 0; i++) {
                        left /= p;
                    }
                }
            }
            if (left > 1) {
                notePrime(left);
            }
        }

        private void notePrime(long prime) {
            if (many < primes.length) {
                primes[many] = prime;
                many++;
            }
        }

        private static long leastMultiple(long a, long b) {
            long one = a;
            long other = b;
            for (int i = 0; i < 100 && other != 0; i++) {
                long rest = one % other;
                one = other;
                other = rest;
            }
            return one == 0 ? 0 : a / one * b;
        }
    }

    /** SWAN, and POLYS sought or counted among all of a DEGREE. */
    static final class Families {
        static final int MOST_SWAN = 2000;
        static final int MOST_SOUGHT = 20;
        /** More than the POLYS of one WEIGHT and DEGREE to 20 are. */
        private static final int MOST_TRIES = 1000000;

        private final Orders orders = new Orders();

        int countTris(int n, boolean primitive) {
            int many = 0;
            for (int k = 1; k < n; k++) {
                if (orders.isSought(Polys.tri(n, k), primitive)) {
                    many++;
                }
            }
            return many;
        }

        /** The i-th k, 0 if there are not so many. */
        int triAt(int n, boolean primitive, int i) {
            int ahead = i;
            for (int k = 1; k < n && ahead >= 0; k++) {
                if (orders.isSought(Polys.tri(n, k), primitive)) {
                    if (ahead == 0) {
                        return k;
                    }
                    ahead--;
                }
            }
            return 0;
        }

        long lightest(int degree, boolean primitive) {
            for (int weight = 1; weight <= degree + 1; weight++) {
                long found = leastOfWeight(degree, weight, primitive);
                if (found != 0) {
                    return found;
                }
            }
            return NO_SUCH;
        }

        /** The least of DEGREE to 20 above a POLY's BITS; 0 if there is none. */
        long nextAbove(long poly, boolean primitive) {
            for (long next = poly + 1; next < 2L << MOST_SOUGHT; next++) {
                if (orders.isSought(next, primitive)) {
                    return next;
                }
            }
            return 0;
        }

        /** By Gauss: n times as many are the sum of 2 to the d, with the sign of n by d, for each d in n. */
        static long countIrreducible(int n) {
            long sum = 0;
            for (int d = 1; d <= n; d++) {
                if (n % d == 0) {
                    sum += ((long) signOf(n / d)) << d;
                }
            }
            return n > 0 ? sum / n : 0;
        }

        /** 0 even, 1 odd, -2 for a square. */
        static int swanParity(int n, int k) {
            if (n % 2 == 0) {
                return k % 2 == 0 ? NO_SUCH : swanOfEven(n, k);
            }
            return swanOfOdd(n, k % 2 == 0 ? k : n - k);
        }

        static int countEven(int n) {
            int sum = 0;
            for (int k = 1; k < n; k++) {
                if (swanParity(n, k) == 0) {
                    sum++;
                }
            }
            return sum;
        }

        private static int swanOfEven(int n, int k) {
            if (n == 2 * k) {
                return 1;
            }
            return n / 2 * k % 4 < 2 ? 0 : 1;
        }

        private static int swanOfOdd(int n, int k) {
            boolean divides = k > 0 && 2 * n % k == 0;
            boolean besideEight = n % 8 == 1 || n % 8 == 7;
            return divides == besideEight ? 0 : 1;
        }

        /** Goes through the lower bits of one WEIGHT, rising, each the next one with as many bits. */
        private long leastOfWeight(int degree, int weight, boolean primitive) {
            long top = 1L << degree;
            long lower = (1L << weight - 1) - 1;
            for (int i = 0; i < MOST_TRIES && lower < top; i++) {
                if (orders.isSought(top | lower, primitive)) {
                    return top | lower;
                }
                if (lower == 0) {
                    break;
                }
                long last = lower & -lower;
                long carried = lower + last;
                lower = carried | (lower ^ carried) >> 2 + Long.numberOfTrailingZeros(last);
            }
            return 0;
        }

        /** Moebius' sign: 0 if a prime is in it twice, else by how many primes it has. */
        private static int signOf(int number) {
            int left = number;
            int sign = 1;
            for (int p = 2; p <= number; p++) {
                if (left % p == 0) {
                    left /= p;
                    sign = left % p == 0 ? 0 : -sign;
                }
                if (sign == 0) {
                    return 0;
                }
            }
            return sign;
        }
    }

    /** STEPS of a REGISTER, and the shortest rule for given bits. */
    static final class Shifts {
        private static final int X = 2;

        private Shifts() {
        }

        /** The state behind one STEP. */
        static long after(long rule, long state) {
            int n = Polys.degree(rule);
            return state >> 1 | sumOf(rule & state) << n - 1;
        }

        /** The state behind many STEPS: s(t) is the sum of the s(j) that x to the t by the rule has. */
        static long behind(long rule, long state, long steps) {
            int n = Polys.degree(rule);
            long power = Polys.powerBy(X, steps, rule);
            long found = 0;
            for (int i = 0; i < n; i++) {
                found |= sumOf(power & state) << i;
                power = Polys.remainder(power << 1, rule);
            }
            return found;
        }

        private static long sumOf(long bits) {
            return Long.bitCount(bits) & 1;
        }

        /**
         * Berlekamp and Massey's way: the law for the bits so far, mended where a bit breaks it by the
         * law that was broken last. Answers the rule, its DEGREE the least L.
         */
        static long shortestRule(long bits, int n) {
            long law = 1;
            long broken = 1;
            int length = 0;
            int gap = 1;
            for (int t = 0; t < n; t++) {
                if (!breaks(bits, t, law, length)) {
                    gap++;
                    continue;
                }
                long mended = law ^ broken << gap;
                if (2 * length <= t) {
                    broken = law;
                    length = t + 1 - length;
                    gap = 1;
                } else {
                    gap++;
                }
                law = mended;
            }
            long rule = 0;
            for (int j = 0; j <= length; j++) {
                rule |= (law >> length - j & 1) << j;
            }
            return rule;
        }

        /** Whether the sum of the bits ahead of t, told backwards by a law, is not as the law wants. */
        private static boolean breaks(long bits, int t, long law, int length) {
            long sum = 0;
            for (int i = 0; i <= length && i <= t; i++) {
                sum ^= law >> i & bits >> t - i & 1;
            }
            return sum != 0;
        }
    }

    /** Reckoning in a FIELD by an IRREDUCIBLE modulus. */
    static final class Field {
        private static final int X = 2;
        private static final int STRIDE = 256;

        private final long[] coefficients = new long[Polys.MOST_DEGREE + 1];
        private final long[] powers = new long[STRIDE];

        static int unlikeConjugates(long a, long modulus) {
            int many = 1;
            long conjugate = Polys.squareBy(a, modulus);
            for (int i = 0; i < Polys.MOST_DEGREE && conjugate != a; i++) {
                conjugate = Polys.squareBy(conjugate, modulus);
                many++;
            }
            return many;
        }

        static int traceOf(long a, long modulus) {
            int n = Polys.degree(modulus);
            long sum = 0;
            long conjugate = a;
            for (int i = 0; i < n; i++) {
                sum ^= conjugate;
                conjugate = Polys.squareBy(conjugate, modulus);
            }
            return (int) sum;
        }

        /** The product of y less c for each CONJUGATE c; all its coefficients are 0 or 1 at last. */
        long leastPoly(long a, long modulus) {
            int n = Math.min(unlikeConjugates(a, modulus), coefficients.length - 1);
            for (int i = 0; i < coefficients.length; i++) {
                coefficients[i] = 0;
            }
            coefficients[0] = 1;
            long conjugate = a;
            for (int round = 0; round < n; round++) {
                for (int i = n; i > 0; i--) {
                    coefficients[i] = coefficients[i - 1] ^ Polys.productBy(coefficients[i], conjugate, modulus);
                }
                coefficients[0] = Polys.productBy(coefficients[0], conjugate, modulus);
                conjugate = Polys.squareBy(conjugate, modulus);
            }
            long least = 0;
            for (int i = 0; i <= n; i++) {
                least |= (coefficients[i] & 1) << i;
            }
            return least;
        }

        /** Looks for a by strides: a power of the base is a stride's power times one of the first powers. */
        long logarithm(long a, long base, long modulus) {
            if (base == 0) {
                return a == 1 ? 0 : a == 0 ? 1 : NONE;
            }
            if (a == 0) {
                return NONE;
            }
            long power = 1;
            for (int i = 0; i < powers.length; i++) {
                powers[i] = power;
                power = Polys.productBy(power, base, modulus);
            }
            long stride = Polys.inverseBy(power, modulus);
            long left = a;
            for (int i = 0; i < STRIDE; i++) {
                int found = findPower(left);
                if (found != NONE) {
                    return (long) i * STRIDE + found;
                }
                left = Polys.productBy(left, stride, modulus);
            }
            return NONE;
        }

        /** The FIELD of DEGREE n has just the roots of x to the 2 to the n less x, each once. */
        static int countRoots(long poly, int n) {
            if (poly == 0) {
                return 1 << n;
            }
            long frobenius = Polys.remainder(X, poly);
            for (int i = 0; i < n; i++) {
                frobenius = Polys.squareBy(frobenius, poly);
            }
            return Polys.degree(Polys.gcd(poly, frobenius ^ X));
        }

        private int findPower(long power) {
            for (int i = 0; i < powers.length; i++) {
                if (powers[i] == power) {
                    return i;
                }
            }
            return NONE;
        }
    }

    /** One row of POLYS, used again for divisors and for rests of powers of x. */
    static final class Rows {
        /** No POLY of DEGREE to 31 has more divisors. */
        private static final int MOST_DIVISORS = 2880;
        private static final int MOST_MULTIPLE = 300;

        private final long[] row = new long[MOST_DIVISORS];
        private int many;
        private int multipleN;
        private int multipleK;

        int multipleN() {
            return multipleN;
        }

        int multipleK() {
            return multipleK;
        }

        /** Each divisor times each power of the next FACTOR; answers how many there are. */
        int gatherDivisors(Factors factors) {
            many = 0;
            append(1);
            for (int i = 0; i < factors.unlike(); i++) {
                int ahead = many;
                for (int j = 0; j < ahead * factors.often(i) && j < row.length; j++) {
                    append(Polys.product(row[j], factors.base(i)));
                }
            }
            return many;
        }

        /** The k-th divisor, found bit by bit from the highest on: no order of the row is needed. */
        long risingDivisor(int k) {
            int ahead = k;
            long found = 0;
            for (int bit = Polys.MOST_DEGREE; bit >= 0; bit--) {
                found <<= 1;
                int lower = countAlike(found, bit);
                if (ahead >= lower) {
                    ahead -= lower;
                    found |= 1;
                }
            }
            return found;
        }

        /** Whether there is a TRI that is a multiple; the least one is told then. */
        boolean findMultiple(long poly) {
            long power = Polys.remainder(1, poly);
            for (int n = 0; n <= MOST_MULTIPLE && n < row.length; n++) {
                row[n] = power;
                for (int k = 1; k < n; k++) {
                    if (row[k] == (power ^ 1)) {
                        multipleN = n;
                        multipleK = k;
                        return true;
                    }
                }
                power = Polys.remainder(power << 1, poly);
            }
            return false;
        }

        private int countAlike(long upper, int bit) {
            int alike = 0;
            for (int i = 0; i < many && i < row.length; i++) {
                if (row[i] >> bit == upper) {
                    alike++;
                }
            }
            return alike;
        }

        private void append(long poly) {
            if (many < row.length) {
                row[many] = poly;
                many++;
            }
        }
    }

    /** POLYS and FACTORS as TEXTS, byte by byte. */
    static final class Letters {
        /** Twice as many as the longest TEXT of a POLY or of FACTORS has. */
        private static final int MOST = 400;

        private final byte[] bytes = new byte[MOST];
        private int size;

        int size() {
            return size;
        }

        int byteAt(int k) {
            return k >= 0 && k < size && k < bytes.length ? bytes[k] : NONE;
        }

        void restart() {
            size = 0;
        }

        void writePoly(long poly) {
            int n = Polys.degree(poly);
            if (n < 0) {
                write('0');
            }
            for (int i = n; i >= 0; i--) {
                if ((poly >> i & 1) != 0) {
                    if (i < n) {
                        write('+');
                    }
                    writePowerOfX(i);
                }
            }
        }

        void writeFactors(Factors factors) {
            for (int i = 0; i < factors.unlike(); i++) {
                write('(');
                writePoly(factors.base(i));
                write(')');
                if (factors.often(i) > 1) {
                    write('^');
                    writeNumber(factors.often(i));
                }
            }
        }

        private void writePowerOfX(int i) {
            if (i == 0) {
                write('1');
                return;
            }
            write('x');
            if (i > 1) {
                write('^');
                writeNumber(i);
            }
        }

        private void writeNumber(int number) {
            if (number >= 10) {
                write('0' + number / 10);
            }
            write('0' + number % 10);
        }

        private void write(int sign) {
            if (size < bytes.length) {
                bytes[size] = (byte) sign;
                size++;
            }
        }
    }
}
