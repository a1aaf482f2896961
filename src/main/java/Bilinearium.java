/**
 * A foundry of fewer products: bilinear maps as cubes of numbers by a prime,
 * ways to multiply by them as lists of products of three vectors, and what
 * these ways cost.
 */
public final class Bilinearium {
    public static final int NONE = -1;

    private static final int MOST_CUBES = 16;
    private static final int MOST_WAYS = 16;
    private static final int MOST_PRODUCTS = 40;
    private static final int MOST_SIZE = 4;
    private static final int SIDES = 3;
    private static final int SLICE_ROOM = MOST_SIZE * MOST_SIZE;
    private static final int CUBE_ROOM = MOST_SIZE * SLICE_ROOM;
    private static final int STATES = 65536;
    private static final int MOST_STEPS = 200;
    private static final int MOST_LEVELS = 6;
    private static final int MOST_LEAST = 12;
    private static final int MOST_LEAST_ANEW = 8;
    private static final int LAST_WHAT = 4;

    private final Cube[] cubes;
    private final Way[] ways;
    // The next four are made once and used by every call, so that calls make nothing.
    private final Flat flat;
    private final Search search;
    private final Sums sums;
    private final int[] entries;
    private int prime;
    private int cubeCount;
    private int wayCount;

    public Bilinearium() {
        cubes = new Cube[MOST_CUBES];
        ways = new Way[MOST_WAYS];
        flat = new Flat();
        search = new Search();
        sums = new Sums();
        entries = new int[CUBE_ROOM];
        prime = 2;
        cubeCount = 0;
        wayCount = 0;
    }

    // ---- cubes

    public int prime(int prime) throws IllegalArgumentException, IllegalStateException {
        if (prime != 2 && prime != 3 && prime != 5) {
            throw new IllegalArgumentException("the prime is 2, 3 or 5");
        }
        if (cubeCount > 0) {
            throw new IllegalStateException("there are cubes");
        }
        int before = this.prime;
        this.prime = prime;
        return before;
    }

    public int cube(int first, int second, int third) throws IllegalArgumentException, IllegalStateException {
        addCube(first, second, third);
        return cubeCount - 1;
    }

    public int matrices(int a, int b, int c) throws IllegalArgumentException, IllegalStateException {
        needSize(a);
        needSize(b);
        needSize(c);
        Cube made = addCube(a * b, b * c, a * c);
        for (int row = 0; row < a; row++) {
            for (int between = 0; between < b; between++) {
                for (int column = 0; column < c; column++) {
                    made.enter(row * b + between, between * c + column, row * c + column, 1);
                }
            }
        }
        made.square = a == b && b == c ? a : 0;
        return cubeCount - 1;
    }

    public int polynomials(int a, int b) throws IllegalArgumentException, IllegalStateException {
        needSize(a);
        needSize(b);
        Cube made = addCube(a, b, a + b - 1);
        for (int i = 0; i < a; i++) {
            for (int j = 0; j < b; j++) {
                made.enter(i, j, i + j, 1);
            }
        }
        return cubeCount - 1;
    }

    public int group(int n) throws IllegalArgumentException, IllegalStateException {
        Cube made = addCube(n, n, n);
        for (int i = 0; i < n; i++) {
            for (int j = 0; j < n; j++) {
                made.enter(i, j, remainder(i + j, n), 1);
            }
        }
        return cubeCount - 1;
    }

    public int set(int cube, int i, int j, int k, int number)
            throws IndexOutOfBoundsException, IllegalArgumentException {
        Cube found = needCube(cube);
        needPlace(found, i, j, k);
        if (number < 0 || number >= prime) {
            throw new IllegalArgumentException("the number is no remainder by the prime");
        }
        int before = found.numberAt(i, j, k);
        found.enter(i, j, k, number);
        found.square = 0;
        return before;
    }

    public int move(int cube, int side, int from, int to, int times)
            throws IndexOutOfBoundsException, IllegalArgumentException {
        Cube found = needCube(cube);
        needSide(side);
        needSlice(found, side, from);
        needSlice(found, side, to);
        if (from == to) {
            throw new IllegalArgumentException("the slices are the same");
        }
        if (times < 1 || times >= prime) {
            throw new IllegalArgumentException("times is out of range");
        }
        found.addSlice(side, from, to, times, prime);
        found.square = 0;
        return found.countOthersThanZero();
    }

    public int sum(int cube, int other)
            throws IndexOutOfBoundsException, IllegalArgumentException, IllegalStateException {
        Cube left = needCube(cube);
        Cube right = needCube(other);
        if (!left.isLike(right)) {
            throw new IllegalArgumentException("the sizes are unlike");
        }
        Cube made = addCube(left.first, left.second, left.third);
        for (int i = 0; i < made.first; i++) {
            for (int j = 0; j < made.second; j++) {
                for (int k = 0; k < made.third; k++) {
                    made.enter(i, j, k, remainder(left.numberAt(i, j, k) + right.numberAt(i, j, k), prime));
                }
            }
        }
        return cubeCount - 1;
    }

    public int product(int cube, int other)
            throws IndexOutOfBoundsException, IllegalArgumentException, IllegalStateException {
        Cube left = needCube(cube);
        Cube right = needCube(other);
        Cube made = addCube(left.first * right.first, left.second * right.second, left.third * right.third);
        for (int i = 0; i < made.first; i++) {
            for (int j = 0; j < made.second; j++) {
                for (int k = 0; k < made.third; k++) {
                    made.enter(i, j, k, remainder(numberOfProduct(left, right, i, j, k), prime));
                }
            }
        }
        return cubeCount - 1;
    }

    // ---- ways

    public int way(int cube) throws IndexOutOfBoundsException, IllegalStateException {
        Cube found = needCube(cube);
        if (wayCount < 0 || wayCount >= ways.length) {
            throw new IllegalStateException("there are 16 ways");
        }
        ways[wayCount] = new Way(found.copied(), prime);
        wayCount++;
        return wayCount - 1;
    }

    public int multiply(int way, int first, int second, int third)
            throws IndexOutOfBoundsException, IllegalArgumentException, IllegalStateException {
        Way found = needWay(way);
        needCode(first, found.target.first);
        needCode(second, found.target.second);
        needCode(third, found.target.third);
        needRoom(found, 1);
        found.append(first, second, third);
        return found.count;
    }

    public int plain(int way) throws IndexOutOfBoundsException, IllegalStateException {
        Way found = needWay(way);
        needRoom(found, found.target.countOthersThanZero());
        found.appendPlaces();
        return found.count;
    }

    public void flip(int way, int product, int other, int side)
            throws IndexOutOfBoundsException, IllegalArgumentException, IllegalStateException {
        Way found = needWay(way);
        needProduct(found, product);
        needProduct(found, other);
        needSide(side);
        if (product == other) {
            throw new IllegalArgumentException("the products are the same");
        }
        if (!found.isSame(product, other, side)) {
            throw new IllegalStateException("the vectors are unlike");
        }
        found.turn(product, other, side);
    }

    public int reduce(int way) throws IndexOutOfBoundsException {
        return needWay(way).shrink();
    }

    public int walk(int way, int state, int steps) throws IndexOutOfBoundsException, IllegalArgumentException {
        Way found = needWay(way);
        if (state < 0 || state >= STATES) {
            throw new IllegalArgumentException("the state is out of range");
        }
        if (steps < 1 || steps > MOST_STEPS) {
            throw new IllegalArgumentException("the steps are out of range");
        }
        return found.wander(state, steps);
    }

    // ---- what there is; nothing from here on changes anything

    public int at(int cube, int i, int j, int k) throws IndexOutOfBoundsException {
        Cube found = needCube(cube);
        needPlace(found, i, j, k);
        return found.numberAt(i, j, k);
    }

    public int flattening(int cube, int side) throws IndexOutOfBoundsException {
        Cube found = needCube(cube);
        needSide(side);
        return flat.rankOf(found, side, prime);
    }

    public int bound(int cube) throws IndexOutOfBoundsException {
        return greatestRank(needCube(cube));
    }

    public int least(int cube) throws IndexOutOfBoundsException, IllegalStateException {
        Cube found = needCube(cube);
        needSmall(found, MOST_LEAST);
        return search.fewest(found, greatestRank(found));
    }

    public int leastAnew(int cube) throws IndexOutOfBoundsException, IllegalStateException {
        Cube found = needCube(cube);
        needSmall(found, MOST_LEAST_ANEW);
        return search.fewest(found, 0);
    }

    public int ofWay(int way, int what) throws IndexOutOfBoundsException, IllegalArgumentException {
        Way found = needWay(way);
        if (what < 0 || what > LAST_WHAT) {
            throw new IllegalArgumentException("what is out of range");
        }
        switch (what) {
            case 0:
                return found.count;
            case 1:
                return found.countWrongPlaces(entries);
            case 2:
                return countAdditions(found, false);
            case 3:
                return countAdditions(found, true);
            default:
                return found.greatestGrowth();
        }
    }

    public int vector(int way, int product, int side) throws IndexOutOfBoundsException {
        Way found = needWay(way);
        needProduct(found, product);
        needSide(side);
        return found.code(product, side);
    }

    public int result(int way, int x, int y, int place) throws IndexOutOfBoundsException, IllegalArgumentException {
        Way found = needWay(way);
        needFactors(found, x, y, place);
        return found.multiplied(x, y, place);
    }

    public int resultByCube(int way, int x, int y, int place)
            throws IndexOutOfBoundsException, IllegalArgumentException {
        Way found = needWay(way);
        needFactors(found, x, y, place);
        return found.multipliedByCube(x, y, place);
    }

    public long levels(int way, int levels, boolean additions)
            throws IndexOutOfBoundsException, IllegalArgumentException, IllegalStateException {
        Way found = needWay(way);
        if (levels < 0 || levels > MOST_LEVELS) {
            throw new IllegalArgumentException("levels is out of range");
        }
        if (found.target.square < 2) {
            throw new IllegalStateException("the way is for no product of square matrices");
        }
        return additions
                ? additionsInLevels(found, levels, countAdditions(found, false))
                : multiplicationsInLevels(found, levels);
    }

    // ---- what calls need

    private static void needSize(int size) {
        if (size < 1 || size > MOST_SIZE) {
            throw new IllegalArgumentException("a size is out of range");
        }
    }

    private Cube needCube(int cube) {
        Cube found = cube >= 0 && cube < cubes.length ? cubes[cube] : null;
        if (found == null) {
            throw new IndexOutOfBoundsException("there is no such cube");
        }
        return found;
    }

    private Way needWay(int way) {
        Way found = way >= 0 && way < ways.length ? ways[way] : null;
        if (found == null) {
            throw new IndexOutOfBoundsException("there is no such way");
        }
        return found;
    }

    private static void needPlace(Cube cube, int i, int j, int k) {
        if (!isBelow(i, cube.first) || !isBelow(j, cube.second) || !isBelow(k, cube.third)) {
            throw new IndexOutOfBoundsException("there is no such place");
        }
    }

    private static void needSide(int side) {
        if (!isBelow(side, SIDES)) {
            throw new IndexOutOfBoundsException("there is no such side");
        }
    }

    private static void needSlice(Cube cube, int side, int slice) {
        if (!isBelow(slice, cube.sizeOf(side))) {
            throw new IndexOutOfBoundsException("there is no such slice");
        }
    }

    private static void needProduct(Way way, int product) {
        if (!isBelow(product, way.count)) {
            throw new IndexOutOfBoundsException("there is no such product");
        }
    }

    private static void needRoom(Way way, int more) {
        if (way.count + more > MOST_PRODUCTS) {
            throw new IllegalStateException("a way has up to 40 products");
        }
    }

    private void needCode(int code, int size) {
        if (!isBelow(code, power(prime, size))) {
            throw new IllegalArgumentException("there is no vector of such a code");
        }
    }

    private void needFactors(Way way, int x, int y, int place) {
        if (!isBelow(place, way.target.third)) {
            throw new IndexOutOfBoundsException("there is no such place");
        }
        needCode(x, way.target.first);
        needCode(y, way.target.second);
    }

    private void needSmall(Cube cube, int most) {
        if (prime != 2 || cube.first * cube.second * cube.third > most) {
            throw new IllegalStateException("the least is told for the prime 2 and small cubes");
        }
    }

    private Cube addCube(int first, int second, int third) {
        needSize(first);
        needSize(second);
        needSize(third);
        if (cubeCount < 0 || cubeCount >= cubes.length) {
            throw new IllegalStateException("there are 16 cubes");
        }
        Cube made = new Cube(first, second, third);
        cubes[cubeCount] = made;
        cubeCount++;
        return made;
    }

    // ---- what answers are made of

    private static int numberOfProduct(Cube left, Cube right, int i, int j, int k) {
        int ofLeft = left.numberAt(quotient(i, right.first), quotient(j, right.second), quotient(k, right.third));
        int ofRight = right.numberAt(remainder(i, right.first), remainder(j, right.second), remainder(k, right.third));
        return ofLeft * ofRight;
    }

    private int greatestRank(Cube cube) {
        int greatest = 0;
        for (int side = 0; side < SIDES; side++) {
            greatest = Math.max(greatest, flat.rankOf(cube, side, prime));
        }
        return greatest;
    }

    private int countAdditions(Way way, boolean shared) {
        int additions = 0;
        for (int side = 0; side < SIDES; side++) {
            way.tellSums(side, sums);
            additions += shared ? sums.sharePairs() : 0;
            additions += sums.countAdditions();
        }
        return additions;
    }

    private static long multiplicationsInLevels(Way way, int levels) {
        long multiplications = 1;
        for (int level = 1; level <= levels; level++) {
            multiplications = multiplications * way.count;
        }
        return multiplications;
    }

    private static long additionsInLevels(Way way, int levels, long ofOneLevel) {
        long square = (long) way.target.square * way.target.square;
        long numbers = 1;
        long additions = 0;
        for (int level = 1; level <= levels; level++) {
            additions = additions * way.count + ofOneLevel * numbers;
            numbers = numbers * square;
        }
        return additions;
    }

    // ---- numbers, and rows of them: read and written here alone, so that no index goes untested

    private static boolean isBelow(int number, int end) {
        return number >= 0 && number < end;
    }

    private static int quotient(int number, int by) {
        return by > 0 ? number / by : 0;
    }

    private static int remainder(int number, int by) {
        return by > 0 ? number % by : 0;
    }

    private static int power(int base, int times) {
        int power = 1;
        for (int time = 0; time < times; time++) {
            power = power * base;
        }
        return power;
    }

    private static int get(int[] row, int index) {
        return row != null && index >= 0 && index < row.length ? row[index] : 0;
    }

    private static void put(int[] row, int index, int number) {
        if (row != null && index >= 0 && index < row.length) {
            row[index] = number;
        }
    }

    private static long getLong(long[] row, int index) {
        return row != null && index >= 0 && index < row.length ? row[index] : 0L;
    }

    private static void putLong(long[] row, int index, long number) {
        if (row != null && index >= 0 && index < row.length) {
            row[index] = number;
        }
    }

    private static int numberIn(int code, int size, int place, int prime) {
        if (prime < 2) {
            return 0;
        }
        int rest = code;
        for (int behind = place + 1; behind < size; behind++) {
            rest = rest / prime;
        }
        return rest % prime;
    }

    private static int codeOf(int number, int size, int place, int prime) {
        return number * power(prime, size - 1 - place);
    }

    private static int addedCode(int code, int other, int times, int size, int prime) {
        int made = 0;
        for (int place = 0; place < size; place++) {
            int number = numberIn(code, size, place, prime) + times * numberIn(other, size, place, prime);
            made = made * prime + remainder(number, prime);
        }
        return made;
    }

    private static int multipliedCodes(int code, int other, int size, int prime) {
        int total = 0;
        for (int place = 0; place < size; place++) {
            total += numberIn(code, size, place, prime) * numberIn(other, size, place, prime);
        }
        return remainder(total, prime);
    }

    /** A cube of numbers; those outside its sizes stay 0, so loops may run over the whole room. */
    private static final class Cube {
        final int first;
        final int second;
        final int third;
        final int[] numbers;
        /** n, as long as this is just what matrices() made of n, n and n; otherwise 0, for no levels. */
        int square;

        Cube(int first, int second, int third) {
            this.first = first;
            this.second = second;
            this.third = third;
            this.numbers = new int[CUBE_ROOM];
            this.square = 0;
        }

        Cube copied() {
            Cube made = new Cube(first, second, third);
            for (int index = 0; index < CUBE_ROOM; index++) {
                put(made.numbers, index, get(numbers, index));
            }
            made.square = square;
            return made;
        }

        int sizeOf(int side) {
            return side == 0 ? first : side == 1 ? second : third;
        }

        boolean isLike(Cube other) {
            return first == other.first && second == other.second && third == other.third;
        }

        int numberAt(int i, int j, int k) {
            return get(numbers, indexOf(i, j, k));
        }

        void enter(int i, int j, int k, int number) {
            put(numbers, indexOf(i, j, k), number);
        }

        int countOthersThanZero() {
            int count = 0;
            for (int index = 0; index < CUBE_ROOM; index++) {
                count += get(numbers, index) != 0 ? 1 : 0;
            }
            return count;
        }

        void addSlice(int side, int from, int to, int times, int prime) {
            for (int at = 0; at < SLICE_ROOM; at++) {
                int index = indexInSlice(side, to, at);
                int number = get(numbers, index) + times * get(numbers, indexInSlice(side, from, at));
                put(numbers, index, remainder(number, prime));
            }
        }

        int numberInSlice(int side, int slice, int at) {
            return get(numbers, indexInSlice(side, slice, at));
        }

        private static int indexInSlice(int side, int slice, int at) {
            int low = at / MOST_SIZE;
            int high = at % MOST_SIZE;
            return side == 0 ? indexOf(slice, low, high)
                    : side == 1 ? indexOf(low, slice, high)
                    : indexOf(low, high, slice);
        }

        static int indexOf(int i, int j, int k) {
            return (i * MOST_SIZE + j) * MOST_SIZE + k;
        }
    }

    /** A flattening of a cube: a row for each slice. */
    private static final class Flat {
        private final int[] numbers = new int[CUBE_ROOM];
        private int rows;
        private int prime;

        int rankOf(Cube cube, int side, int prime) {
            take(cube, side, prime);
            int rank = 0;
            for (int column = 0; column < SLICE_ROOM; column++) {
                int row = rowWithNumber(column, rank);
                if (row != NONE) {
                    swapRows(row, rank);
                    clearBelow(column, rank);
                    rank++;
                }
            }
            return rank;
        }

        private void take(Cube cube, int side, int prime) {
            this.rows = cube.sizeOf(side);
            this.prime = prime;
            for (int row = 0; row < rows; row++) {
                for (int column = 0; column < SLICE_ROOM; column++) {
                    enter(row, column, cube.numberInSlice(side, row, column));
                }
            }
        }

        private int number(int row, int column) {
            return get(numbers, row * SLICE_ROOM + column);
        }

        private void enter(int row, int column, int number) {
            put(numbers, row * SLICE_ROOM + column, number);
        }

        private int rowWithNumber(int column, int from) {
            for (int row = from; row < rows; row++) {
                if (number(row, column) != 0) {
                    return row;
                }
            }
            return NONE;
        }

        private void swapRows(int row, int other) {
            for (int column = 0; column < SLICE_ROOM; column++) {
                int number = number(row, column);
                enter(row, column, number(other, column));
                enter(other, column, number);
            }
        }

        /** Rows below are multiplied too, by the leading number, so that no number has to be divided. */
        private void clearBelow(int column, int leading) {
            int lead = number(leading, column);
            for (int row = leading + 1; row < rows; row++) {
                int times = prime - number(row, column);
                for (int at = column; at < SLICE_ROOM; at++) {
                    enter(row, at, remainder(lead * number(row, at) + times * number(leading, at), prime));
                }
            }
        }
    }

    /** A search for the fewest products of a cube by the prime 2, its numbers being the bits of an int. */
    private static final class Search {
        private static final int MOST_SINGLES = 105;
        private static final int MARKS_A_ROW = 64;
        private static final int MARK_ROWS = (1 << MOST_LEAST) / MARKS_A_ROW;

        /** The cubes of a single product. */
        private final int[] singles = new int[MOST_SINGLES];
        /** A bit for each cube that is one of a single product. */
        private final long[] marks = new long[MARK_ROWS];
        private int count;

        /** The caller tells a number below which there is nothing to find. */
        int fewest(Cube cube, int noLess) {
            gatherSingles(cube);
            int whole = bitsOf(cube);
            for (int products = noLess; products < MOST_LEAST; products++) {
                if (isMade(whole, products, 0)) {
                    return products;
                }
            }
            return MOST_LEAST;
        }

        private boolean isMade(int rest, int products, int from) {
            if (products < 1) {
                return rest == 0;
            }
            if (products == 1) {
                return isSingle(rest);
            }
            for (int single = from; single < count; single++) {
                if (isMade(rest ^ get(singles, single), products - 1, single + 1)) {
                    return true;
                }
            }
            return false;
        }

        private boolean isSingle(int bits) {
            return (getLong(marks, bits / MARKS_A_ROW) >>> bits % MARKS_A_ROW & 1L) != 0L;
        }

        private void gatherSingles(Cube cube) {
            for (int row = 0; row < MARK_ROWS; row++) {
                putLong(marks, row, 0L);
            }
            count = 0;
            for (int first = 1; first < power(2, cube.first); first++) {
                for (int second = 1; second < power(2, cube.second); second++) {
                    for (int third = 1; third < power(2, cube.third); third++) {
                        addSingle(bitsOfSingle(cube, first, second, third));
                    }
                }
            }
        }

        private void addSingle(int bits) {
            put(singles, count, bits);
            count++;
            int row = bits / MARKS_A_ROW;
            putLong(marks, row, getLong(marks, row) | 1L << bits % MARKS_A_ROW);
        }

        private static int bitsOfSingle(Cube cube, int first, int second, int third) {
            int bits = 0;
            for (int i = 0; i < cube.first; i++) {
                int slice = numberIn(first, cube.first, i, 2);
                for (int j = 0; j < cube.second; j++) {
                    int row = slice * numberIn(second, cube.second, j, 2);
                    bits = bits << cube.third | row * third;
                }
            }
            return bits;
        }

        private static int bitsOf(Cube cube) {
            int bits = 0;
            for (int i = 0; i < cube.first; i++) {
                for (int j = 0; j < cube.second; j++) {
                    for (int k = 0; k < cube.third; k++) {
                        bits = bits << 1 | cube.numberAt(i, j, k);
                    }
                }
            }
            return bits;
        }
    }

    /** The sums of a side of a program: for each number that is added, the sums in which it is, as bits. */
    private static final class Sums {
        /**
         * Each shared pair leaves at least two numbers fewer in the sums,
         * which have no more than all products with all their places.
         */
        private static final int MOST_PAIRS = MOST_PRODUCTS * MOST_SIZE / 2;

        private final long[] holders = new long[MOST_PRODUCTS + MOST_PAIRS];
        private int count;

        void clear() {
            count = 0;
        }

        void append(long holder) {
            putLong(holders, count, holder);
            count++;
        }

        int countAdditions() {
            int added = 0;
            long filled = 0L;
            for (int number = 0; number < count; number++) {
                long holder = getLong(holders, number);
                added += Long.bitCount(holder);
                filled = filled | holder;
            }
            return added - Long.bitCount(filled);
        }

        int sharePairs() {
            int pairs = 0;
            while (pairs < MOST_PAIRS && shareBestPair()) {
                pairs++;
            }
            return pairs;
        }

        private boolean shareBestPair() {
            int first = NONE;
            int second = NONE;
            int most = 1;
            for (int number = 0; number < count; number++) {
                long holder = getLong(holders, number);
                // A number in no more sums than the best pair is in no better pair.
                for (int other = number + 1; other < count && Long.bitCount(holder) > most; other++) {
                    int together = Long.bitCount(holder & getLong(holders, other));
                    if (together > most) {
                        first = number;
                        second = other;
                        most = together;
                    }
                }
            }
            if (first == NONE) {
                return false;
            }
            replace(first, second);
            return true;
        }

        private void replace(int first, int second) {
            long both = getLong(holders, first) & getLong(holders, second);
            putLong(holders, first, getLong(holders, first) & ~both);
            putLong(holders, second, getLong(holders, second) & ~both);
            append(both);
        }
    }

    /** A way to multiply: products for a cube, as that was then. */
    private static final class Way {
        /** Three codes of vectors are kept in one int, so that two products are compared at once. */
        private static final int CODE_BITS = 10;
        private static final int CODE_MASK = (1 << CODE_BITS) - 1;
        private static final int MULTIPLIER = 25173;
        private static final int INCREMENT = 13849;

        final Cube target;
        private final int prime;
        private final int[] triples;
        int count;

        Way(Cube target, int prime) {
            this.target = target;
            this.prime = prime;
            this.triples = new int[MOST_PRODUCTS];
            this.count = 0;
        }

        int code(int product, int side) {
            return get(triples, product) >>> shiftOf(side) & CODE_MASK;
        }

        private void enterCode(int product, int side, int code) {
            int others = get(triples, product) & ~(CODE_MASK << shiftOf(side));
            put(triples, product, others | code << shiftOf(side));
        }

        private static int shiftOf(int side) {
            return side * CODE_BITS;
        }

        private int number(int product, int side, int place) {
            return numberIn(code(product, side), target.sizeOf(side), place, prime);
        }

        void append(int first, int second, int third) {
            put(triples, count, first << shiftOf(0) | second << shiftOf(1) | third << shiftOf(2));
            count++;
        }

        void appendPlaces() {
            for (int i = 0; i < target.first; i++) {
                for (int j = 0; j < target.second; j++) {
                    for (int k = 0; k < target.third; k++) {
                        int number = target.numberAt(i, j, k);
                        if (number != 0) {
                            append(codeOf(number, target.first, i, prime),
                                    codeOf(1, target.second, j, prime),
                                    codeOf(1, target.third, k, prime));
                        }
                    }
                }
            }
        }

        boolean isSame(int product, int other, int side) {
            return code(product, side) == code(other, side);
        }

        // The public methods' names are theirs alone: a flip is a turn here, to reduce is to shrink.
        void turn(int product, int other, int side) {
            int low = side == 0 ? 1 : 0;
            int high = side == 2 ? 1 : 2;
            addVector(product, other, low, 1);
            addVector(other, product, high, prime - 1);
        }

        private void addVector(int product, int other, int side, int times) {
            int size = target.sizeOf(side);
            enterCode(product, side, addedCode(code(product, side), code(other, side), times, size, prime));
        }

        int shrink() {
            int before = count;
            for (int turn = 0; turn < before; turn++) {
                if (!takeOutZeros() && !joinProducts()) {
                    break;
                }
            }
            return before - count;
        }

        private boolean takeOutZeros() {
            for (int product = 0; product < count; product++) {
                if (hasZeros(product)) {
                    takeOut(product);
                    return true;
                }
            }
            return false;
        }

        private boolean joinProducts() {
            for (int product = 0; product < count; product++) {
                for (int other = product + 1; other < count; other++) {
                    int side = sideToJoin(product, other);
                    if (side != NONE) {
                        addVector(product, other, side, 1);
                        takeOut(other);
                        return true;
                    }
                }
            }
            return false;
        }

        private boolean hasZeros(int product) {
            return code(product, 0) == 0 || code(product, 1) == 0 || code(product, 2) == 0;
        }

        /** The third side of two products that have the same vectors at two. */
        private int sideToJoin(int product, int other) {
            int unlike = get(triples, product) ^ get(triples, other);
            boolean first = (unlike & CODE_MASK << shiftOf(0)) == 0;
            boolean second = (unlike & CODE_MASK << shiftOf(1)) == 0;
            boolean third = (unlike & CODE_MASK << shiftOf(2)) == 0;
            if (first && second) {
                return 2;
            }
            if (first && third) {
                return 1;
            }
            return second && third ? 0 : NONE;
        }

        private void takeOut(int product) {
            for (int behind = product + 1; behind < count; behind++) {
                put(triples, behind - 1, get(triples, behind));
            }
            count--;
        }

        int wander(int state, int steps) {
            int drawn = state;
            boolean reduced = false;
            for (int step = 0; step < steps && count > 0; step++) {
                drawn = draw(drawn);
                int product = remainder(drawn, count);
                drawn = draw(drawn);
                int other = remainder(drawn, count);
                drawn = draw(drawn);
                int side = remainder(drawn, SIDES);
                if (product != other && isSame(product, other, side)) {
                    turn(product, other, side);
                    // Only what was flipped can make a reduced way reducible again.
                    reduced = reduced && !isReducible(product) && !isReducible(other);
                }
                if (!reduced) {
                    shrink();
                    reduced = true;
                }
            }
            return drawn;
        }

        private static int draw(int state) {
            return remainder(state * MULTIPLIER + INCREMENT, STATES);
        }

        private boolean isReducible(int product) {
            if (hasZeros(product)) {
                return true;
            }
            for (int other = 0; other < count; other++) {
                if (other != product && sideToJoin(product, other) != NONE) {
                    return true;
                }
            }
            return false;
        }

        /** The room for the numbers is lent, so that a way need not have its own. */
        int countWrongPlaces(int[] entries) {
            for (int index = 0; index < CUBE_ROOM; index++) {
                put(entries, index, 0);
            }
            for (int product = 0; product < count; product++) {
                addEntries(product, entries);
            }
            int wrong = 0;
            for (int index = 0; index < CUBE_ROOM; index++) {
                wrong += remainder(get(entries, index), prime) != get(target.numbers, index) ? 1 : 0;
            }
            return wrong;
        }

        private void addEntries(int product, int[] entries) {
            for (int i = 0; i < target.first; i++) {
                int left = number(product, 0, i);
                for (int j = 0; j < target.second && left != 0; j++) {
                    int both = left * number(product, 1, j);
                    for (int k = 0; k < target.third && both != 0; k++) {
                        int index = Cube.indexOf(i, j, k);
                        put(entries, index, get(entries, index) + both * number(product, 2, k));
                    }
                }
            }
        }

        void tellSums(int side, Sums sums) {
            sums.clear();
            if (side == 2) {
                for (int product = 0; product < count; product++) {
                    sums.append(filledPlaces(product, side));
                }
            } else {
                for (int place = 0; place < target.sizeOf(side); place++) {
                    sums.append(filledProducts(side, place));
                }
            }
        }

        /** The places, as bits, at which a vector of a product is not 0. */
        private long filledPlaces(int product, int side) {
            long places = 0L;
            for (int place = 0; place < target.sizeOf(side); place++) {
                places = places | (number(product, side, place) != 0 ? 1L << place : 0L);
            }
            return places;
        }

        /** The products, as bits, whose vector of a side is not 0 at a place. */
        private long filledProducts(int side, int place) {
            long products = 0L;
            for (int product = 0; product < count; product++) {
                products = products | (number(product, side, place) != 0 ? 1L << product : 0L);
            }
            return products;
        }

        int greatestGrowth() {
            int greatest = 0;
            for (int place = 0; place < target.third; place++) {
                greatest = Math.max(greatest, growthAt(place));
            }
            return greatest;
        }

        private int growthAt(int place) {
            int growth = 0;
            for (int product = 0; product < count; product++) {
                if (number(product, 2, place) != 0) {
                    int left = Long.bitCount(filledPlaces(product, 0));
                    int right = Long.bitCount(filledPlaces(product, 1));
                    growth += left * right;
                }
            }
            return growth;
        }

        int multiplied(int x, int y, int place) {
            int total = 0;
            for (int product = 0; product < count; product++) {
                int left = multipliedCodes(code(product, 0), x, target.first, prime);
                int right = multipliedCodes(code(product, 1), y, target.second, prime);
                total += number(product, 2, place) * left * right;
            }
            return remainder(total, prime);
        }

        int multipliedByCube(int x, int y, int place) {
            int total = 0;
            for (int i = 0; i < target.first; i++) {
                int left = numberIn(x, target.first, i, prime);
                for (int j = 0; j < target.second; j++) {
                    int right = numberIn(y, target.second, j, prime);
                    total += target.numberAt(i, j, place) * left * right;
                }
            }
            return remainder(total, prime);
        }
    }
}
