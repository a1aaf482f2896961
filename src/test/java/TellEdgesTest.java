/**
 * Promises 17 to 26 at their boundaries. Each sentence of theirs is told ahead of the test that holds it;
 * a call that is refused, as one that is answered, is asked to change nothing.
 */
public final class TellEdgesTest {
    private static final int[] PRIMES = {2, 3, 5};
    private static final int MIN = Integer.MIN_VALUE;
    private static final int MAX = Integer.MAX_VALUE;
    private static final int[] ONE = {1, 1, 1};
    private static final int[] TWO = {2, 2, 2};
    private static final int[] FOUR = {4, 4, 4};
    /** The seven products of Strassen, by 2. */
    private static final int[] SEVEN = {9, 9, 9, 3, 8, 3, 8, 5, 5, 1, 10, 10, 12, 1, 12, 10, 12, 1, 5, 3, 8};
    private static final Scene FULL = Scene.filled(2, 16, 16);

    /** A cube of number 0, a way of number 0 for it, and its products. */
    private static Scene way(int prime, int[] sizes, int... codes) {
        return new Scene(prime).cube(0, sizes).then(x -> x.way(0)).products(0, codes);
    }

    private static Scene matrices(int products) {
        return new Scene(2).then(x -> x.matrices(2, 2, 2)).then(x -> x.way(0))
                .times(products, (x, time) -> x.multiply(0, 15, 15, 15));
    }

    private static int power(int base, int times) {
        int power = 1;
        for (int time = 0; time < times; time++) {
            power *= base;
        }
        return power;
    }

    private static int[] all(int length, int number) {
        int[] numbers = new int[length];
        java.util.Arrays.fill(numbers, number);
        return numbers;
    }

    // ---- at

    // Promise 17: "Returns a number of a cube."
    private static void atNumber() {
        for (int prime : PRIMES) {
            for (int number = 0; number < prime; number++) {
                new Scene(prime).cube(0, ONE, number).answers("the only number", number, x -> x.at(0, 0, 0, 0));
            }
        }
        int[] numbers = all(64, 1);
        numbers[0] = 2;
        numbers[63] = 3;
        Scene scene = new Scene(5).cube(0, FOUR, numbers);
        scene.answers("the first", 2, x -> x.at(0, 0, 0, 0));
        scene.answers("behind the first", 1, x -> x.at(0, 0, 0, 1));
        scene.answers("ahead of the last", 1, x -> x.at(0, 3, 3, 2));
        scene.answers("the last", 3, x -> x.at(0, 3, 3, 3));
    }

    // Promise 17: "Throws IndexOutOfBoundsException if there is no such cube, or no such place in it"
    private static void atNowhere() {
        Scene scene = new Scene(2).cube(0, new int[] {2, 3, 4}, all(24, 1)).cube(1, ONE);
        scene.range("the cube", 0, 1, Scene.INDEX, cube -> 1 - cube, (x, cube) -> x.at(cube, 0, 0, 0));
        scene.range("i", 0, 1, Scene.INDEX, i -> 1, (x, i) -> x.at(0, i, 2, 3));
        scene.range("j", 0, 2, Scene.INDEX, j -> 1, (x, j) -> x.at(0, 1, j, 3));
        scene.range("k", 0, 3, Scene.INDEX, k -> 1, (x, k) -> x.at(0, 1, 2, k));
        scene.index("a place of another cube", x -> x.at(1, 0, 0, 1));
        scene.index("i that would be the next j", x -> x.at(0, 0, 3, 0));
        scene.index("k that would be the next j", x -> x.at(0, 0, 0, 4));
        FULL.range("one of 16", 0, 15, Scene.INDEX, cube -> 0, (x, cube) -> x.at(cube, 0, 0, 0));
        scene.changesNothing("at", x -> x.at(0, 1, 2, 3));
    }

    // ---- flattening

    // Promise 18: "Returns the rank of a flattening."
    private static void flatteningRank() {
        for (int side = 0; side < 3; side++) {
            int at = side;
            new Scene(5).cube(0, FOUR).answers("zeros", 0, x -> x.flattening(0, at));
            new Scene(5).cube(0, ONE).answers("a single zero", 0, x -> x.flattening(0, at));
            new Scene(5).cube(0, ONE, 4).answers("a single number", 1, x -> x.flattening(0, at));
            new Scene(5).cube(0, FOUR, all(64, 4)).answers("slices that are alike", 1, x -> x.flattening(0, at));
            new Scene(2).then(x -> x.group(4)).answers("as many as there may be", 4, x -> x.flattening(0, at));
            new Scene(2).then(x -> x.matrices(2, 2, 2)).answers("matrices", 4, x -> x.flattening(0, at));
        }
        // Four slices of one number each, and one slice of four numbers.
        Scene thin = new Scene(5).cube(0, new int[] {4, 1, 1}, 1, 2, 3, 4);
        thin.answers("four rows of one", 1, x -> x.flattening(0, 0));
        thin.answers("one row of four", 1, x -> x.flattening(0, 1));
        thin.answers("one row of four, of side 2", 1, x -> x.flattening(0, 2));
    }

    // Promise 18: "Throws IndexOutOfBoundsException if there is no such cube or side"
    private static void flatteningNowhere() {
        Scene scene = new Scene(2).cube(0, ONE, 1).cube(1, TWO);
        scene.range("the cube", 0, 1, Scene.INDEX, cube -> 1 - cube, (x, cube) -> x.flattening(cube, 0));
        scene.range("the side", 0, 2, Scene.INDEX, side -> 1, (x, side) -> x.flattening(0, side));
        scene.index("neither", x -> x.flattening(2, 3));
        FULL.range("one of 16", 0, 15, Scene.INDEX, cube -> 0, (x, cube) -> x.flattening(cube, 2));
        scene.changesNothing("flattening", x -> x.flattening(0, 1));
    }

    // ---- bound

    // Promise 19: "Returns the bound of a cube."
    private static void boundOfCube() {
        new Scene(3).cube(0, FOUR).answers("zeros", 0, x -> x.bound(0));
        new Scene(3).cube(0, ONE, 2).answers("a single number", 1, x -> x.bound(0));
        new Scene(3).then(x -> x.group(4)).answers("as much as there may be", 4, x -> x.bound(0));
        // The ranks are 4, 2, 2 and so on: each side is the greatest one once.
        new Scene(3).then(x -> x.matrices(2, 2, 1)).answers("of side 0", 4, x -> x.bound(0));
        new Scene(3).then(x -> x.matrices(1, 2, 2)).answers("of side 1", 4, x -> x.bound(0));
        new Scene(3).then(x -> x.matrices(2, 1, 2)).answers("of side 2", 4, x -> x.bound(0));
    }

    // Promise 19: "Throws IndexOutOfBoundsException if there is no such cube"
    private static void boundOfNone() {
        Scene scene = new Scene(2).cube(0, ONE, 1).cube(1, TWO);
        scene.range("the cube", 0, 1, Scene.INDEX, cube -> 1 - cube, (x, cube) -> x.bound(cube));
        FULL.range("one of 16", 0, 15, Scene.INDEX, cube -> 0, (x, cube) -> x.bound(cube));
        scene.changesNothing("bound", x -> x.bound(0));
    }

    // ---- least

    // Promise 20: "Returns the least number of products."
    private static void leastOfCube() {
        new Scene(2).cube(0, ONE).answers("a single zero", 0, x -> x.least(0));
        new Scene(2).cube(0, ONE, 1).answers("a single 1", 1, x -> x.least(0));
        new Scene(2).cube(0, new int[] {2, 2, 3}, all(12, 1)).answers("all 1", 1, x -> x.least(0));
        new Scene(2).cube(0, new int[] {1, 3, 4}, 1, 0, 0, 0, 0, 1, 0, 0, 0, 0, 1, 0)
                .answers("as many as there are slices", 3, x -> x.least(0));
        // A field of four has ranks of 2 alone, and still needs 3.
        Scene field = new Scene(2).cube(0, TWO, 1, 0, 0, 1, 0, 1, 1, 1);
        field.answers("its bound", 2, x -> x.bound(0));
        field.answers("more than its bound", 3, x -> x.least(0));
    }

    // Promise 20: "Throws IndexOutOfBoundsException if there is no such cube"
    private static void leastOfNone() {
        Scene scene = new Scene(2).cube(0, ONE, 1).cube(1, TWO);
        scene.range("the cube", 0, 1, Scene.INDEX, cube -> 1 - cube, (x, cube) -> x.least(cube));
        FULL.range("one of 16", 0, 15, Scene.INDEX, cube -> 0, (x, cube) -> x.least(cube));
        for (int prime : PRIMES) {
            Scene large = new Scene(prime).cube(0, FOUR);
            large.index("no cube, by " + prime, x -> x.least(1));
            large.index("no cube -1, by " + prime, x -> x.least(-1));
        }
        scene.changesNothing("least", x -> x.least(0));
    }

    // Promise 20: "Throws IllegalStateException if the prime is not 2, or the cube has more than 12 numbers"
    private static void leastOfLarge() {
        for (int first = 1; first < 5; first++) {
            for (int second = 1; second < 5; second++) {
                for (int third = 1; third < 5; third++) {
                    int numbers = first * second * third;
                    int[] ends = all(numbers, 0);
                    ends[numbers - 1] = 1;
                    int[] sizes = {first, second, third};
                    Scene scene = new Scene(2).cube(0, sizes, ends);
                    if (numbers <= 12) {
                        scene.answers("the least of " + numbers + " numbers", 1, x -> x.least(0));
                    } else {
                        scene.state("no least of " + numbers + " numbers", x -> x.least(0));
                    }
                    new Scene(3).cube(0, sizes).state("no least by 3", x -> x.least(0));
                    new Scene(5).cube(0, sizes, ends).state("no least by 5", x -> x.least(0));
                }
            }
        }
    }

    // ---- leastAnew

    // Promise 21: "Returns the same, all ways being tried, with no bound."
    private static void leastAnewOfCube() {
        new Scene(2).cube(0, ONE).answers("a single zero", 0, x -> x.leastAnew(0));
        new Scene(2).cube(0, ONE, 1).answers("a single 1", 1, x -> x.leastAnew(0));
        new Scene(2).cube(0, TWO).answers("8 zeros", 0, x -> x.leastAnew(0));
        new Scene(2).cube(0, TWO, all(8, 1)).answers("8 of 1", 1, x -> x.leastAnew(0));
        new Scene(2).cube(0, new int[] {1, 2, 4}, 1, 0, 0, 0, 0, 0, 0, 1).answers("two", 2, x -> x.leastAnew(0));
        new Scene(2).cube(0, TWO, 1, 0, 0, 1, 0, 1, 1, 1).answers("a field of four", 3, x -> x.leastAnew(0));
        for (int bits = 0; bits < 256; bits++) {
            int[] numbers = new int[8];
            for (int at = 0; at < 8; at++) {
                numbers[at] = bits >> at & 1;
            }
            Scene scene = new Scene(2).cube(0, TWO, numbers);
            Bilinearium x = scene.made();
            scene.answers("the same of " + bits, x.least(0), y -> y.leastAnew(0));
        }
    }

    // Promise 21: "Throws IndexOutOfBoundsException if there is no such cube"
    private static void leastAnewOfNone() {
        Scene scene = new Scene(2).cube(0, ONE, 1).cube(1, TWO);
        scene.range("the cube", 0, 1, Scene.INDEX, cube -> 1 - cube, (x, cube) -> x.leastAnew(cube));
        FULL.range("one of 16", 0, 15, Scene.INDEX, cube -> 0, (x, cube) -> x.leastAnew(cube));
        for (int prime : PRIMES) {
            Scene large = new Scene(prime).cube(0, FOUR);
            large.index("no cube, by " + prime, x -> x.leastAnew(1));
            large.index("no cube -1, by " + prime, x -> x.leastAnew(-1));
        }
        scene.changesNothing("leastAnew", x -> x.leastAnew(0));
    }

    // Promise 21: "Throws IllegalStateException if the prime is not 2, or the cube has more than 8 numbers"
    private static void leastAnewOfLarge() {
        for (int first = 1; first < 5; first++) {
            for (int second = 1; second < 5; second++) {
                for (int third = 1; third < 5; third++) {
                    int numbers = first * second * third;
                    int[] ends = all(numbers, 0);
                    ends[0] = 1;
                    int[] sizes = {first, second, third};
                    Scene scene = new Scene(2).cube(0, sizes, ends);
                    if (numbers <= 8) {
                        scene.answers("the least anew of " + numbers + " numbers", 1, x -> x.leastAnew(0));
                    } else {
                        scene.state("no least anew of " + numbers + " numbers", x -> x.leastAnew(0));
                    }
                    new Scene(3).cube(0, sizes).state("no least anew by 3", x -> x.leastAnew(0));
                    new Scene(5).cube(0, sizes, ends).state("no least anew by 5", x -> x.leastAnew(0));
                }
            }
        }
    }

    // ---- ofWay

    private static void tells(String what, Scene scene, int... due) {
        for (int told = 0; told < 5; told++) {
            int number = told;
            scene.answers(what + ": " + number, due[number], x -> x.ofWay(0, number));
        }
    }

    // Promise 22: "Tells of a way: 0 how many products it has, 1 at how many places its cube is not that for
    // which it is, 2 its additions, 3 its additions, shared, 4 its growth."
    private static void ofWayTells() {
        tells("nothing for zeros", way(2, FOUR), 0, 0, 0, 0, 0);
        tells("nothing for ones", new Scene(2).cube(0, FOUR, all(64, 1)).then(x -> x.way(0)), 0, 64, 0, 0, 0);
        tells("a product of zeros", way(5, FOUR, 0, 0, 0), 1, 0, 0, 0, 0);
        tells("a product of one number each", way(5, FOUR, 1, 1, 1), 1, 1, 0, 0, 1);
        tells("a product of two each, but the third", way(5, FOUR, 30, 6, 1), 1, 4, 2, 2, 4);
        // Sums of four at two sides, and at 64 places 1; at the third side four sums of one.
        tells("a product of all numbers", way(5, FOUR, 156, 156, 156), 1, 64, 6, 6, 16);
        tells("seven products", matrices(0).products(0, SEVEN), 7, 0, 18, 18, 12);
        // 40 times 3 and 3, and 4 times 39; shared 3 and 3, and 39; 40 ones are 0 by 2, but 8 places of the cube are 1.
        tells("40 products of all numbers", matrices(40), 40, 8, 396, 45, 640);
    }

    // Promise 22: "what: 0 to 4"
    private static void ofWayWhat() {
        int[] due = {7, 0, 18, 18, 12};
        matrices(0).products(0, SEVEN).range("what", 0, 4, Scene.ARGUMENT, what -> due[what],
                (x, what) -> x.ofWay(0, what));
    }

    // Promise 22: "Throws IndexOutOfBoundsException if there is no such way"
    private static void ofNoWay() {
        for (int what = 0; what < 5; what++) {
            int told = what;
            Scene.filled(2, 3, 2).range("the way", 0, 1, Scene.INDEX, way -> 0, (x, way) -> x.ofWay(way, told));
            FULL.range("one of 16", 0, 15, Scene.INDEX, way -> 0, (x, way) -> x.ofWay(way, told));
        }
        for (int what : new int[] {MIN, -1, 5, MAX}) {
            FULL.index("no way, and no what", x -> x.ofWay(16, what));
            FULL.index("no way -1, and no what", x -> x.ofWay(-1, what));
        }
    }

    // Promise 22: "Throws IllegalArgumentException if what is out of range"
    private static void ofWayWrong() {
        for (int what : new int[] {MIN, -2, -1, 5, 6, 256, MAX}) {
            matrices(0).argument("what of " + what, x -> x.ofWay(0, what));
            matrices(40).argument("what of " + what + ", of 40 products", x -> x.ofWay(0, what));
        }
        for (int what = 0; what < 5; what++) {
            int told = what;
            matrices(3).changesNothing("ofWay " + told, x -> x.ofWay(0, told));
        }
    }

    // ---- vector

    // Promise 23: "Returns a vector of a product, as its code."
    private static void vectorCode() {
        for (int prime : PRIMES) {
            int last = power(prime, 4) - 1;
            Scene scene = way(prime, FOUR, 0, 1, last, last, 0, 1);
            scene.answers("zeros", 0, x -> x.vector(0, 0, 0));
            scene.answers("the last number", 1, x -> x.vector(0, 0, 1));
            scene.answers("the greatest", last, x -> x.vector(0, 0, 2));
            scene.answers("the greatest, first", last, x -> x.vector(0, 1, 0));
            scene.answers("zeros, second", 0, x -> x.vector(0, 1, 1));
            scene.answers("the last number, third", 1, x -> x.vector(0, 1, 2));
        }
    }

    // Promise 23: "Throws IndexOutOfBoundsException if there is no such way, product or side"
    private static void vectorNowhere() {
        Scene scene = way(3, TWO, 7, 7, 7, 7, 7, 7).then(x -> x.way(0)).then(x -> x.multiply(1, 7, 7, 7));
        scene.range("the way", 0, 1, Scene.INDEX, n -> 7, (x, n) -> x.vector(n, 0, 2));
        scene.range("the product", 0, 1, Scene.INDEX, n -> 7, (x, n) -> x.vector(0, n, 2));
        scene.range("the side", 0, 2, Scene.INDEX, n -> 7, (x, n) -> x.vector(0, 1, n));
        scene.range("the product of another way", 0, 0, Scene.INDEX, n -> 7, (x, n) -> x.vector(1, n, 0));
        scene.then(x -> x.reduce(0)).range("the product that is left", 0, 0, Scene.INDEX, n -> 7,
                (x, n) -> x.vector(0, n, 0));
        way(3, TWO).index("no product at all", x -> x.vector(0, 0, 0));
        matrices(40).range("one of 40", 0, 39, Scene.INDEX, n -> 15, (x, n) -> x.vector(0, n, 2));
        scene.changesNothing("vector", x -> x.vector(0, 1, 2));
    }

    // ---- result

    // Promise 24: "Multiplies two vectors by a way: the place of the result is the sum over products of the number
    // of the third vector there, times the sum of the first vector's numbers times those of x, times that of the
    // second's times those of y."
    private static void resultOfWay() {
        way(5, FOUR).answers("no products", 0, x -> x.result(0, 624, 624, 3));
        way(5, FOUR, 0, 624, 624).answers("zeros", 0, x -> x.result(0, 624, 624, 3));
        way(5, FOUR, 624, 624, 624).answers("x of zeros", 0, x -> x.result(0, 0, 624, 3));
        way(5, FOUR, 624, 624, 624).answers("y of zeros", 0, x -> x.result(0, 624, 0, 3));
        // 4 times 16 times 4 times 16 times 4 is 16384, and 4 by 5.
        way(5, FOUR, 624, 624, 624).answers("the greatest codes", 4, x -> x.result(0, 624, 624, 0));
        way(5, FOUR).times(40, (x, time) -> x.multiply(0, 624, 624, 624))
                .answers("40 of them", 0, x -> x.result(0, 624, 624, 3));
        way(5, FOUR).times(39, (x, time) -> x.multiply(0, 624, 624, 624))
                .answers("39 of them", 1, x -> x.result(0, 624, 624, 3));
        for (int prime : PRIMES) {
            for (int number = 0; number < prime; number++) {
                int told = number;
                way(prime, ONE, 1, 1, 1).answers("x", told, x -> x.result(0, told, 1, 0));
                way(prime, ONE, 1, 1, 1).answers("y", told, x -> x.result(0, 1, told, 0));
                way(prime, ONE, 1, 1, told).answers("the third", told, x -> x.result(0, 1, 1, 0));
            }
        }
        // The first and the last numbers of vectors meet each other, and none else.
        Scene ends = way(3, FOUR, 27, 1, 29);
        ends.answers("first of x, last of y, first place", 1, x -> x.result(0, 27, 1, 0));
        ends.answers("a place of 0", 0, x -> x.result(0, 27, 1, 1));
        ends.answers("the last place", 2, x -> x.result(0, 27, 1, 3));
        ends.answers("last of x", 0, x -> x.result(0, 1, 1, 3));
        ends.answers("first of y", 0, x -> x.result(0, 27, 27, 3));
        resultOfUnlikeSizes();
    }

    /** Each number of a cube is the result of two vectors with a single 1, by its plain way and by the cube. */
    private static void resultOfUnlikeSizes() {
        int[] numbers = {1, 2, 3, 4, 4, 1, 3, 2};
        for (int[] sizes : new int[][] {{1, 2, 4}, {1, 4, 2}, {2, 1, 4}, {2, 4, 1}, {4, 1, 2}, {4, 2, 1}}) {
            Scene scene = new Scene(5).cube(0, sizes, numbers).then(x -> x.way(0)).then(x -> x.plain(0));
            for (int at = 0; at < 8; at++) {
                int k = at % sizes[2];
                int x = power(5, sizes[0] - 1 - at / sizes[2] / sizes[1]);
                int y = power(5, sizes[1] - 1 - at / sizes[2] % sizes[1]);
                scene.answers("the number " + at, numbers[at], z -> z.result(0, x, y, k));
                scene.answers("the number " + at + " by the cube", numbers[at], z -> z.resultByCube(0, x, y, k));
            }
            int greatestX = power(5, sizes[0]) - 1;
            int greatestY = power(5, sizes[1]) - 1;
            scene.answers("all together", scene.made().resultByCube(0, greatestX, greatestY, sizes[2] - 1),
                    z -> z.result(0, greatestX, greatestY, sizes[2] - 1));
        }
    }

    // Promise 24: "x: the code of a vector of the first size"
    private static void resultX() {
        for (int prime : PRIMES) {
            for (int size = 1; size < 5; size++) {
                way(prime, new int[] {size, 5 - size, 2}).range("x by " + prime + " of size " + size, 0,
                        power(prime, size) - 1, Scene.ARGUMENT, code -> 0, (x, code) -> x.result(0, code, 1, 1));
            }
        }
    }

    // Promise 24: "y: the code of a vector of the second size"
    private static void resultY() {
        for (int prime : PRIMES) {
            for (int size = 1; size < 5; size++) {
                way(prime, new int[] {5 - size, size, 2}).range("y by " + prime + " of size " + size, 0,
                        power(prime, size) - 1, Scene.ARGUMENT, code -> 0, (x, code) -> x.result(0, 1, code, 1));
            }
        }
    }

    // Promise 24: "place: of the third side"
    private static void resultPlace() {
        for (int size = 1; size < 5; size++) {
            way(3, new int[] {2, 5 - size, size}, 1, 1, 1).range("the place of " + size, 0, size - 1, Scene.INDEX,
                    place -> 0, (x, place) -> x.result(0, 0, 1, place));
        }
        int[] due = {2, 1, 0, 2};
        way(3, FOUR, 1, 1, 2 * 27 + 9 + 2).range("the place", 0, 3, Scene.INDEX, place -> due[place],
                (x, place) -> x.result(0, 1, 1, place));
    }

    // Promise 24: "Throws IndexOutOfBoundsException if there is no such way or place"
    private static void resultNowhere() {
        Scene.filled(2, 1, 2).range("the way", 0, 1, Scene.INDEX, way -> 0, (x, way) -> x.result(way, 1, 1, 0));
        FULL.range("one of 16", 0, 15, Scene.INDEX, way -> 0, (x, way) -> x.result(way, 1, 1, 0));
        Scene scene = way(2, new int[] {1, 2, 3}, 1, 1, 1);
        scene.index("no way, no place", x -> x.result(1, 1, 1, 3));
        scene.index("no way, no x", x -> x.result(1, 2, 0, 0));
        scene.index("no way -1, no y", x -> x.result(-1, 0, 4, 0));
        scene.index("no place, no x", x -> x.result(0, 2, 0, 3));
        scene.index("no place -1, no y", x -> x.result(0, 0, -1, -1));
        scene.index("no place, neither x nor y", x -> x.result(0, -1, 4, MAX));
    }

    // Promise 24: "Throws IllegalArgumentException if x or y is no such code"
    private static void resultNoCode() {
        Scene scene = way(3, new int[] {1, 2, 3}, 1, 1, 1);
        scene.answers("the greatest ones", 1, x -> x.result(0, 2, 8, 2));
        scene.argument("x that is one of the second size", x -> x.result(0, 8, 8, 2));
        scene.argument("y that is one of the third size", x -> x.result(0, 2, 26, 2));
        scene.argument("x", x -> x.result(0, 3, 0, 0));
        scene.argument("y", x -> x.result(0, 0, 9, 0));
        scene.argument("both", x -> x.result(0, MIN, MAX, 0));
        scene.changesNothing("result", x -> x.result(0, 2, 8, 2));
    }

    // ---- resultByCube

    // Promise 25: "Returns the same by the cube for which the way is."
    private static void resultByCube() {
        way(5, FOUR, 624, 624, 624).answers("zeros", 0, x -> x.resultByCube(0, 624, 624, 3));
        Scene all = new Scene(5).cube(0, FOUR, all(64, 4)).then(x -> x.way(0));
        // 4 times 16 times 16 is 1024, and 4 by 5.
        all.answers("the greatest codes", 4, x -> x.resultByCube(0, 624, 624, 0));
        all.answers("x of zeros", 0, x -> x.resultByCube(0, 0, 624, 0));
        all.answers("y of zeros", 0, x -> x.resultByCube(0, 624, 0, 3));
        all.answers("the same without products", 0, x -> x.result(0, 624, 624, 0));
        int[] numbers = new int[64];
        numbers[0] = 2;
        numbers[3 * 16 + 2] = 3;
        numbers[63] = 4;
        Scene ends = new Scene(5).cube(0, FOUR, numbers).then(x -> x.way(0)).then(x -> x.plain(0));
        ends.answers("the first place", 2, x -> x.resultByCube(0, 125, 125, 0));
        ends.answers("i of 3, j of 0", 3, x -> x.resultByCube(0, 1, 125, 2));
        ends.answers("the last place", 4, x -> x.resultByCube(0, 1, 1, 3));
        ends.answers("none", 0, x -> x.resultByCube(0, 125, 1, 3));
        for (int place = 0; place < 4; place++) {
            int at = place;
            for (int code : new int[] {0, 1, 125, 126, 250, 623, 624}) {
                ends.answers("the same, as the way holds", ends.made().result(0, code, 624 - code, at),
                        x -> x.resultByCube(0, code, 624 - code, at));
            }
        }
        // It is the cube as it was, and no product is asked.
        Scene later = ends.then(x -> x.set(0, 0, 0, 0, 0)).then(x -> x.multiply(0, 125, 125, 125));
        later.answers("the cube as it was", 2, x -> x.resultByCube(0, 125, 125, 0));
        later.answers("the way as it is", 3, x -> x.result(0, 125, 125, 0));
        later.changesNothing("resultByCube", x -> x.resultByCube(0, 1, 1, 3));
    }

    // Promise 25: "x: the code of a vector of the first size"
    private static void resultByCubeX() {
        for (int prime : PRIMES) {
            for (int size = 1; size < 5; size++) {
                way(prime, new int[] {size, 5 - size, 2}).range("x by " + prime + " of size " + size, 0,
                        power(prime, size) - 1, Scene.ARGUMENT, code -> 0, (x, code) -> x.resultByCube(0, code, 1, 1));
            }
        }
    }

    // Promise 25: "y: the code of a vector of the second size"
    private static void resultByCubeY() {
        for (int prime : PRIMES) {
            for (int size = 1; size < 5; size++) {
                way(prime, new int[] {5 - size, size, 2}).range("y by " + prime + " of size " + size, 0,
                        power(prime, size) - 1, Scene.ARGUMENT, code -> 0, (x, code) -> x.resultByCube(0, 1, code, 1));
            }
        }
    }

    // Promise 25: "place: of the third side"
    private static void resultByCubePlace() {
        for (int size = 1; size < 5; size++) {
            way(3, new int[] {2, 5 - size, size}).range("the place of " + size, 0, size - 1, Scene.INDEX,
                    place -> 0, (x, place) -> x.resultByCube(0, 0, 1, place));
        }
        int[] due = {2, 1, 0, 2};
        new Scene(3).cube(0, new int[] {1, 1, 4}, due).then(x -> x.way(0)).range("the place", 0, 3, Scene.INDEX,
                place -> due[place], (x, place) -> x.resultByCube(0, 1, 1, place));
    }

    // Promise 25: "Throws IndexOutOfBoundsException if there is no such way or place"
    private static void resultByCubeNowhere() {
        Scene.filled(2, 3, 2).range("the way", 0, 1, Scene.INDEX, way -> 0,
                (x, way) -> x.resultByCube(way, 1, 1, 0));
        FULL.range("one of 16", 0, 15, Scene.INDEX, way -> 0, (x, way) -> x.resultByCube(way, 1, 1, 0));
        Scene scene = way(2, new int[] {1, 2, 3}, 1, 1, 1);
        scene.index("no way, no place", x -> x.resultByCube(1, 1, 1, 3));
        scene.index("no way, no x", x -> x.resultByCube(1, 2, 0, 0));
        scene.index("no way -1, no y", x -> x.resultByCube(-1, 0, 4, 0));
        scene.index("no place, no x", x -> x.resultByCube(0, 2, 0, 3));
        scene.index("no place -1, no y", x -> x.resultByCube(0, 0, -1, -1));
        scene.index("no place, neither x nor y", x -> x.resultByCube(0, -1, 4, MAX));
    }

    // Promise 25: "Throws IllegalArgumentException if x or y is no such code"
    private static void resultByCubeNoCode() {
        Scene scene = new Scene(3).cube(0, new int[] {1, 2, 3}, 0, 0, 0, 0, 0, 2).then(x -> x.way(0));
        scene.answers("the greatest ones", 2, x -> x.resultByCube(0, 2, 8, 2));
        scene.argument("x that is one of the second size", x -> x.resultByCube(0, 8, 8, 2));
        scene.argument("y that is one of the third size", x -> x.resultByCube(0, 2, 26, 2));
        scene.argument("x", x -> x.resultByCube(0, 3, 0, 0));
        scene.argument("y", x -> x.resultByCube(0, 0, 9, 0));
        scene.argument("both", x -> x.resultByCube(0, MIN, MAX, 0));
    }

    // ---- levels

    // Promise 26: "Returns the multiplications, or the additions, of a way in levels."
    private static void levelsOfWay() {
        long[] multiplications = {1, 7, 49, 343, 2401, 16807, 117649};
        long[] additions = {0, 18, 198, 1674, 12870, 94698, 681318};
        Scene seven = matrices(0).products(0, SEVEN);
        for (int level = 0; level < 7; level++) {
            int told = level;
            seven.answers("multiplications in " + told, multiplications[told], x -> x.levels(0, told, false));
            seven.answers("additions in " + told, additions[told], x -> x.levels(0, told, true));
            matrices(0).answers("without products", told == 0 ? 1 : 0, x -> x.levels(0, told, false));
            matrices(0).answers("without products, no additions", 0, x -> x.levels(0, told, true));
            // One product of all numbers: 3 and 3 additions, and none at the third side, times 4 each level.
            matrices(1).answers("one product", 1, x -> x.levels(0, told, false));
            matrices(1).answers("its additions", 6 * (power(4, told) - 1) / 3, x -> x.levels(0, told, true));
        }
        // An int holds 35 to the power of 6, but neither 36 nor 40.
        matrices(35).answers("35 products", 1838265625L, x -> x.levels(0, 6, false));
        matrices(36).answers("36 products", 2176782336L, x -> x.levels(0, 6, false));
        matrices(40).answers("40 products", 4096000000L, x -> x.levels(0, 6, false));
        long due = 0;
        for (int level = 1; level < 7; level++) {
            due = 40 * due + 396L * power(4, level - 1);
        }
        matrices(40).answers("the additions of 40", due, x -> x.levels(0, 6, true));
    }

    // Promise 26: "levels: 0 to 6"
    private static void levelsRange() {
        matrices(2).range("levels", 0, 6, Scene.ARGUMENT, level -> power(2, level),
                (x, level) -> x.levels(0, level, false));
        matrices(0).range("levels, for additions", 0, 6, Scene.ARGUMENT, level -> 0,
                (x, level) -> x.levels(0, level, true));
    }

    // Promise 26: "additions: whether the additions"
    private static void levelsAdditions() {
        matrices(1).answers("multiplications", 1, x -> x.levels(0, 1, false));
        matrices(1).answers("additions", 6, x -> x.levels(0, 1, true));
        matrices(1).changesNothing("multiplications", x -> x.levels(0, 6, false));
        matrices(1).changesNothing("additions", x -> x.levels(0, 6, true));
    }

    // Promise 26: "Throws IndexOutOfBoundsException if there is no such way"
    private static void levelsOfNone() {
        Scene two = matrices(0).then(x -> x.way(0));
        two.range("the way", 0, 1, Scene.INDEX, way -> 1, (x, way) -> x.levels(way, 0, false));
        Scene full = matrices(0).times(15, (x, time) -> x.way(0));
        full.range("one of 16", 0, 15, Scene.INDEX, way -> 1, (x, way) -> x.levels(way, 0, false));
        two.index("no way, and no levels", x -> x.levels(2, 7, true));
        two.index("no way -1, and no levels", x -> x.levels(-1, -1, false));
        FULL.index("no way, where none is for matrices", x -> x.levels(16, 0, true));
    }

    // Promise 26: "Throws IllegalArgumentException if levels is out of range"
    private static void levelsWrong() {
        for (int level : new int[] {MIN, -2, -1, 7, 8, 64, MAX}) {
            matrices(2).argument("levels of " + level, x -> x.levels(0, level, false));
            matrices(2).argument("levels of " + level + ", for additions", x -> x.levels(0, level, true));
            FULL.argument("levels of " + level + ", for no matrices", x -> x.levels(0, level, false));
        }
    }

    /** Whatever the levels, they are refused for a way of number 0. */
    private static void refused(String what, Scene scene) {
        for (int level = 0; level < 7; level++) {
            int told = level;
            scene.state(what, x -> x.levels(0, told, false));
            scene.state(what + ", for additions", x -> x.levels(0, told, true));
        }
    }

    // Promise 26: "Throws IllegalStateException if it is not for a cube that matrices() made of a, b and c that are
    // alike and above 1, and that no set() or move() was done to ahead of the way"
    private static void levelsOfOtherCubes() {
        for (int a = 1; a < 5; a++) {
            for (int b = 1; b * a < 5; b++) {
                for (int c = 1; c * a < 5 && c * b < 5; c++) {
                    int[] told = {a, b, c};
                    Scene scene = new Scene(3).then(x -> x.matrices(told[0], told[1], told[2])).then(x -> x.way(0));
                    if (a == 2 && b == 2 && c == 2) {
                        scene.answers("alike and above 1", 1, x -> x.levels(0, 0, false));
                    } else {
                        refused("matrices of " + a + b + c, scene);
                    }
                }
            }
        }
        refused("a cube of zeros", way(2, FOUR));
        refused("polynomials", new Scene(2).then(x -> x.polynomials(2, 2)).then(x -> x.way(0)));
        refused("a group of 4", new Scene(2).then(x -> x.group(4)).then(x -> x.way(0)));
        // The same numbers, but not made by matrices().
        Scene made = new Scene(2).then(x -> x.matrices(2, 2, 2));
        refused("a sum", made.then(x -> x.cube(4, 4, 4)).then(x -> x.sum(0, 1)).then(x -> x.way(2)));
        refused("a product", made.then(x -> x.matrices(1, 1, 1)).then(x -> x.product(0, 1)).then(x -> x.way(2)));
        refused("a product of its sides", new Scene(2).then(x -> x.matrices(2, 1, 1))
                .then(x -> x.matrices(1, 2, 2)).then(x -> x.product(0, 1)).then(x -> x.way(2)));
        int[] numbers = new int[64];
        for (int at = 0; at < 64; at++) {
            numbers[at] = made.made().at(0, at / 16, at / 4 % 4, at % 4);
        }
        refused("one that is set", new Scene(2).cube(0, FOUR, numbers).then(x -> x.way(0)));
    }

    // Promise 26: "Throws IllegalStateException if it is not for a cube that matrices() made of a, b and c that are
    // alike and above 1, and that no set() or move() was done to ahead of the way"
    private static void levelsBehindChanges() {
        Scene made = new Scene(3).then(x -> x.matrices(2, 2, 2)).then(x -> x.matrices(2, 2, 2));
        Scene.Call set = x -> x.set(0, 0, 0, 0, 2);
        Scene.Call same = x -> x.set(0, 3, 3, 3, 1);
        Scene.Call move = x -> x.move(0, 2, 0, 1, 1);
        refused("a set ahead", made.then(set).then(x -> x.way(0)));
        refused("a set to the same number ahead", made.then(same).then(x -> x.way(0)));
        refused("a set and back", made.then(set).then(x -> x.set(0, 0, 0, 0, 1)).then(x -> x.way(0)));
        refused("a move ahead", made.then(move).then(x -> x.way(0)));
        refused("a move and back", made.then(move).then(x -> x.move(0, 2, 0, 1, 2)).then(x -> x.way(0)));
        Scene.Call level = x -> x.levels(0, 0, false);
        made.then(x -> x.way(0)).then(set).answers("a set behind", 1, level);
        made.then(x -> x.way(0)).then(move).answers("a move behind", 1, level);
        made.then(x -> x.way(0)).then(set).then(x -> x.way(0))
                .state("a way behind the set", x -> x.levels(1, 0, false));
        made.then(set).then(move).then(x -> x.way(1)).answers("another cube", 1, level);
        // Refused calls were not done.
        Scene.Call[] wrong = {x -> x.set(0, 4, 0, 0, 2), x -> x.set(0, 0, 0, 0, 3), x -> x.set(0, 0, 0, 0, -1),
            x -> x.move(0, 3, 0, 1, 1), x -> x.move(0, 0, 0, 4, 1), x -> x.move(0, 0, 0, 0, 1),
            x -> x.move(0, 0, 0, 1, 0), x -> x.move(0, 0, 0, 1, 3)};
        for (Scene.Call call : wrong) {
            made.trying(call).then(x -> x.way(0)).answers("a call that was refused", 1, level);
        }
        // Neither are calls that only tell, or that use the cube for others.
        made.then(x -> x.sum(0, 1)).then(x -> x.bound(0)).then(x -> x.way(0)).answers("a sum of it", 1, level);
        // The way need not hold.
        made.then(x -> x.way(0)).then(x -> x.multiply(0, 0, 0, 0)).answers("a way that does not hold", 1, level);
    }

    public static void main(String[] args) {
        atNumber();
        atNowhere();
        flatteningRank();
        flatteningNowhere();
        boundOfCube();
        boundOfNone();
        leastOfCube();
        leastOfNone();
        leastOfLarge();
        leastAnewOfCube();
        leastAnewOfNone();
        leastAnewOfLarge();
        ofWayTells();
        ofWayWhat();
        ofNoWay();
        ofWayWrong();
        vectorCode();
        vectorNowhere();
        resultOfWay();
        resultX();
        resultY();
        resultPlace();
        resultNowhere();
        resultNoCode();
        resultByCube();
        resultByCubeX();
        resultByCubeY();
        resultByCubePlace();
        resultByCubeNowhere();
        resultByCubeNoCode();
        levelsOfWay();
        levelsRange();
        levelsAdditions();
        levelsOfNone();
        levelsWrong();
        levelsOfOtherCubes();
        levelsBehindChanges();
        Due.end();
    }
}
