/**
 * Promises 11 to 16 at their boundaries. Each sentence of theirs is told ahead of the test that holds it;
 * a call that is refused is asked to change nothing, by everything that another object shows.
 */
public final class WayEdgesTest {
    private static final int[] PRIMES = {2, 3, 5};
    private static final int MIN = Integer.MIN_VALUE;
    private static final int MAX = Integer.MAX_VALUE;
    private static final int[] ONE = {1, 1, 1};
    private static final int[] TWO = {2, 2, 2};
    /** 15 ways leave room for one; 16 are full. */
    private static final Scene FIFTEEN = Scene.filled(2, 2, 15);
    private static final Scene FULL = Scene.filled(2, 2, 16);
    /** 39 products leave room for one; 40 are full. A second way has none. */
    private static final Scene THIRTY_NINE = ones(39);
    private static final Scene FORTY = ones(40);

    /** A cube of number 0, a way of number 0 for it, and its products. */
    private static Scene way(int prime, int[] sizes, int... codes) {
        return new Scene(prime).cube(0, sizes).then(x -> x.way(0)).products(0, codes);
    }

    private static Scene ones(int products) {
        return way(3, ONE).times(products, (x, time) -> x.multiply(0, 1, 1, 2)).then(x -> x.way(0));
    }

    private static int power(int base, int times) {
        int power = 1;
        for (int time = 0; time < times; time++) {
            power *= base;
        }
        return power;
    }

    /** So many 1 in a cube of 4 by 4 by 4, ahead of other places. */
    private static int[] firstOnes(int count) {
        int[] numbers = new int[64];
        java.util.Arrays.fill(numbers, 0, count, 1);
        return numbers;
    }

    // ---- way

    // Promise 11: "Adds a way for a cube, without products."
    private static void wayWithoutProducts() {
        Scene empty = way(2, TWO);
        empty.answers("no products", 0, x -> x.ofWay(0, 0));
        empty.index("not even one", x -> x.vector(0, 0, 0));
        FORTY.answers("none, behind a way that is full", 0, x -> x.ofWay(1, 0));
        Scene ones = new Scene(2).cube(0, new int[] {4, 4, 4}, firstOnes(64)).then(x -> x.way(0));
        ones.answers("none, for a cube that is full", 0, x -> x.ofWay(0, 0));
        ones.answers("all its places are to go", 64, x -> x.ofWay(0, 1));
    }

    // Promise 11: "Returns its number."
    private static void wayNumber() {
        for (int count = 0; count < 16; count++) {
            Scene.filled(2, 1, count).answers("the number behind " + count, count, x -> x.way(0));
            Scene.filled(2, 16, count).answers("the number among 16 cubes", count, x -> x.way(15));
        }
    }

    // Promise 11: "Throws IndexOutOfBoundsException if there is no such cube"
    private static void wayForNone() {
        new Scene(2).index("no cubes", x -> x.way(0));
        Scene.filled(2, 3, 1).range("the cube", 0, 2, Scene.INDEX, cube -> 1, (x, cube) -> x.way(cube));
        Scene.filled(2, 16, 0).range("one of 16", 0, 15, Scene.INDEX, cube -> 0, (x, cube) -> x.way(cube));
        FULL.index("no cube, and 16 ways", x -> x.way(2));
        FULL.index("no cube -1, and 16 ways", x -> x.way(-1));
    }

    // Promise 11: "Throws IllegalStateException if there are 16"
    private static void wayBehindSixteen() {
        FIFTEEN.answers("a way behind 15", 15, x -> x.way(1));
        FULL.state("a way behind 16", x -> x.way(0));
        FULL.state("a way behind 16, for a cube without any", x -> x.way(1));
        Scene used = FULL.times(16, (x, time) -> x.multiply(time, 1, 1, 1));
        used.state("a way behind 16 with products", x -> x.way(1));
    }

    // ---- multiply

    // Promise 12: "Adds a product to a way, behind the others."
    private static void productBehindOthers() {
        way(3, new int[] {1, 2, 3}).leaves("the first", "2,8,26", x -> x.multiply(0, 2, 8, 26));
        way(3, new int[] {1, 2, 3}, 0, 0, 0).leaves("behind zeros", "0,0,0 2,8,26", x -> x.multiply(0, 2, 8, 26));
        way(3, new int[] {1, 2, 3}, 2, 8, 26).leaves("the same again", "2,8,26 2,8,26",
                x -> x.multiply(0, 2, 8, 26));
        THIRTY_NINE.leaves("the last one", "1,1,2 ".repeat(39) + "2,1,1", x -> x.multiply(0, 2, 1, 1));
        THIRTY_NINE.leaves("that of another way", "1,1,2 ".repeat(39).strip(), x -> x.multiply(1, 2, 1, 1));
    }

    // Promise 12: "first: the code of a vector"
    private static void firstCode() {
        for (int prime : PRIMES) {
            for (int size = 1; size < 5; size++) {
                way(prime, new int[] {size, 1, 2}).range("first by " + prime + " of size " + size, 0,
                        power(prime, size) - 1, Scene.ARGUMENT, code -> 1, (x, code) -> x.multiply(0, code, 1, 1));
            }
        }
    }

    // Promise 12: "second: likewise"
    private static void secondCode() {
        for (int prime : PRIMES) {
            for (int size = 1; size < 5; size++) {
                way(prime, new int[] {2, size, 1}).range("second by " + prime + " of size " + size, 0,
                        power(prime, size) - 1, Scene.ARGUMENT, code -> 1, (x, code) -> x.multiply(0, 1, code, 1));
            }
        }
    }

    // Promise 12: "third: likewise"
    private static void thirdCode() {
        for (int prime : PRIMES) {
            for (int size = 1; size < 5; size++) {
                way(prime, new int[] {1, 2, size}).range("third by " + prime + " of size " + size, 0,
                        power(prime, size) - 1, Scene.ARGUMENT, code -> 1, (x, code) -> x.multiply(0, 1, 1, code));
            }
        }
    }

    // Promise 12: "Returns how many it has."
    private static void productCount() {
        for (int count = 0; count < 40; count++) {
            ones(count).answers("how many behind " + count, count + 1, x -> x.multiply(0, 0, 0, 0));
        }
        THIRTY_NINE.answers("how many another way has", 1, x -> x.multiply(1, 0, 0, 0));
    }

    // Promise 12: "Throws IndexOutOfBoundsException if there is no such way"
    private static void multiplyNowhere() {
        Scene.filled(2, 1, 2).range("the way", 0, 1, Scene.INDEX, way -> 1, (x, way) -> x.multiply(way, 1, 1, 1));
        FULL.range("one of 16", 0, 15, Scene.INDEX, way -> 1, (x, way) -> x.multiply(way, 1, 1, 1));
        FORTY.index("no way, and no code", x -> x.multiply(2, 3, 3, 3));
        FORTY.index("no way -1, and no code", x -> x.multiply(-1, -1, 0, 0));
    }

    // Promise 12: "Throws IllegalArgumentException if a code is none of a vector of that size"
    private static void multiplyNoCode() {
        // Each greatest code is one too many of the next smaller size.
        Scene scene = way(5, new int[] {2, 3, 4});
        scene.answers("the greatest codes", 1, x -> x.multiply(0, 24, 124, 624));
        scene.argument("no first", x -> x.multiply(0, 25, 124, 624));
        scene.argument("no second", x -> x.multiply(0, 24, 125, 624));
        scene.argument("no third", x -> x.multiply(0, 24, 124, 625));
        scene.argument("none of them", x -> x.multiply(0, -1, -1, -1));
        scene.argument("codes of other sides", x -> x.multiply(0, 124, 24, 124));
        // Codes that would fit, if they came round in ten or sixteen bits.
        scene.argument("first of 1024", x -> x.multiply(0, 1024, 0, 0));
        scene.argument("third of 1024 less than 0", x -> x.multiply(0, 0, 0, -1024));
        scene.argument("second of 65536", x -> x.multiply(0, 0, 65536, 0));
    }

    // Promise 12: "Throws IllegalStateException if it has 40"
    private static void multiplyBehindForty() {
        THIRTY_NINE.answers("a product behind 39", 40, x -> x.multiply(0, 1, 1, 1));
        FORTY.state("a product behind 40", x -> x.multiply(0, 1, 1, 1));
        FORTY.state("zeros behind 40", x -> x.multiply(0, 0, 0, 0));
        FORTY.answers("one of another way", 1, x -> x.multiply(1, 1, 1, 1));
        FORTY.argument("no first code, and 40", x -> x.multiply(0, 3, 1, 1));
        FORTY.argument("no second code, and 40", x -> x.multiply(0, 1, -1, 1));
        FORTY.argument("no third code, and 40", x -> x.multiply(0, 1, 1, MAX));
        FORTY.then(x -> x.reduce(0)).answers("there is room again", 2, x -> x.multiply(0, 1, 1, 1));
    }

    // ---- plain

    // Promise 13: "Adds to a way, for each place of its cube that is not 0 there, in the order of i, then j,
    // then k, a product with that number at i in the first vector, 1 at j in the second and 1 at k in the third,
    // and zeros else; those that it had stay."
    private static void plainProducts() {
        int[] numbers = new int[64];
        numbers[0] = 2;
        numbers[63] = 4;
        Scene corners = new Scene(5).cube(0, new int[] {4, 4, 4}, numbers).then(x -> x.way(0));
        corners.leaves("the first and the last place", "250,125,125 4,1,1", x -> x.plain(0));
        Scene eight = new Scene(3).cube(0, TWO, 1, 2, 1, 2, 2, 1, 2, 1).then(x -> x.way(0));
        eight.leaves("i, then j, then k", "3,3,3 6,3,1 3,1,3 6,1,1 2,3,3 1,3,1 2,1,3 1,1,1", x -> x.plain(0));
        // With unlike sizes the first and the last place have other codes at each side.
        int[] powers = {1, 1, 3, 9, 27};
        for (int[] sizes : new int[][] {{1, 2, 4}, {1, 4, 2}, {2, 1, 4}, {2, 4, 1}, {4, 1, 2}, {4, 2, 1}}) {
            new Scene(3).cube(0, sizes, 2, 0, 0, 0, 0, 0, 0, 1).then(x -> x.way(0)).leaves("of unlike sizes",
                    2 * powers[sizes[0]] + "," + powers[sizes[1]] + "," + powers[sizes[2]] + " 1,1,1",
                    x -> x.plain(0));
        }
        Scene zeros = way(2, new int[] {4, 4, 4});
        zeros.leaves("none, for zeros", "", x -> x.plain(0));
        zeros.products(0, 3, 2, 1).leaves("those that it had", "3,2,1", x -> x.plain(0));
        Scene one = new Scene(5).cube(0, ONE, 4).then(x -> x.way(0));
        one.leaves("a single place", "4,1,1", x -> x.plain(0));
        one.products(0, 0, 0, 0).leaves("behind those that it had", "0,0,0 4,1,1", x -> x.plain(0));
        one.then(x -> x.plain(0)).leaves("once more", "4,1,1 4,1,1", x -> x.plain(0));
        one.then(x -> x.set(0, 0, 0, 0, 0)).leaves("the cube as it was", "4,1,1", x -> x.plain(0));
    }

    // Promise 13: "Returns how many it has."
    private static void plainCount() {
        for (int places : new int[] {0, 1, 2, 39, 40}) {
            new Scene(2).cube(0, new int[] {4, 4, 4}, firstOnes(places)).then(x -> x.way(0))
                    .answers("how many of " + places, places, x -> x.plain(0));
        }
        Scene three = new Scene(2).cube(0, TWO, 1, 1, 1).then(x -> x.way(0)).products(0, 1, 1, 1);
        three.answers("those that it had, too", 4, x -> x.plain(0));
    }

    // Promise 13: "Throws IndexOutOfBoundsException if there is no such way"
    private static void plainNowhere() {
        new Scene(2).cube(0, ONE, 1).index("no ways", x -> x.plain(0));
        Scene.filled(2, 1, 2).range("the way", 0, 1, Scene.INDEX, way -> 0, (x, way) -> x.plain(way));
        FULL.range("one of 16", 0, 15, Scene.INDEX, way -> 0, (x, way) -> x.plain(way));
        FORTY.index("no way, and one that is full", x -> x.plain(2));
    }

    // Promise 13: "Throws IllegalStateException if it would have more than 40"
    private static void plainBehindForty() {
        for (int places = 38; places < 44; places++) {
            int due = places;
            Scene scene = new Scene(2).cube(0, new int[] {4, 4, 4}, firstOnes(places)).then(x -> x.way(0));
            if (places <= 40) {
                scene.answers("so many places", due, x -> x.plain(0));
            } else {
                scene.state("too many places", x -> x.plain(0));
            }
        }
        Scene all = new Scene(2).cube(0, new int[] {4, 4, 4}, firstOnes(64)).then(x -> x.way(0));
        all.state("all places", x -> x.plain(0));
        for (int had = 34; had < 41; had++) {
            int due = had + 4;
            Scene four = new Scene(2).cube(0, TWO, 1, 0, 1, 0, 1, 0, 1).then(x -> x.way(0))
                    .times(had, (x, time) -> x.multiply(0, 1, 1, 1));
            if (due <= 40) {
                four.answers("four behind " + had, due, x -> x.plain(0));
            } else {
                four.state("four behind " + had, x -> x.plain(0));
            }
        }
        FORTY.answers("none behind 40", 40, x -> x.plain(0));
    }

    // ---- flip

    // Promise 14: "Flips two products."
    private static void flipTwo() {
        // By 5: 1,2 and 2,4 are 3,1; 0,3 less 4,4 is 1,4.
        way(5, TWO, 6, 7, 24, 6, 14, 3).leaves("at side 0", "6,16,24 6,14,9", x -> Scene.flip(x, 0, 0, 1, 0));
        way(5, TWO, 7, 6, 24, 14, 6, 3).leaves("at side 1", "16,6,24 14,6,9", x -> Scene.flip(x, 0, 0, 1, 1));
        way(5, TWO, 7, 24, 6, 14, 3, 6).leaves("at side 2", "16,24,6 14,9,6", x -> Scene.flip(x, 0, 0, 1, 2));
        // A flip does not reduce, though the sum may be zeros, or the two alike.
        way(2, TWO, 1, 2, 3, 1, 2, 3).leaves("alike", "1,0,3 1,2,0", x -> Scene.flip(x, 0, 0, 1, 0));
        way(3, ONE, 0, 1, 1, 0, 2, 1).leaves("zeros alike", "0,0,1 0,2,0", x -> Scene.flip(x, 0, 0, 1, 0));
        // The first and the last of 40.
        FORTY.leaves("the first and the last", "1,2,2 " + "1,1,2 ".repeat(38) + "1,1,0",
                x -> Scene.flip(x, 0, 0, 39, 0));
        FORTY.leaves("the last and the first", "1,1,0 " + "1,1,2 ".repeat(38) + "1,2,2",
                x -> Scene.flip(x, 0, 39, 0, 0));
    }

    // Promise 14: "side: at which they have the same vector"
    private static void flipSide() {
        Scene alike = way(3, TWO, 4, 5, 6, 4, 5, 6);
        alike.range("the side", 0, 2, Scene.INDEX, side -> 0, (x, side) -> Scene.flip(x, 0, 0, 1, side));
        alike.leaves("of all three, the one told: 0", "4,7,6 4,5,0", x -> Scene.flip(x, 0, 0, 1, 0));
        alike.leaves("of all three, the one told: 1", "8,5,6 4,5,0", x -> Scene.flip(x, 0, 0, 1, 1));
        alike.leaves("of all three, the one told: 2", "8,5,6 4,0,6", x -> Scene.flip(x, 0, 0, 1, 2));
    }

    // Promise 14: "Throws IndexOutOfBoundsException if there is no such way, product, of both, or side"
    private static void flipNowhere() {
        Scene scene = way(3, TWO, 4, 5, 6, 4, 5, 6, 4, 5, 6);
        scene.range("the way", 0, 0, Scene.INDEX, n -> 0, (x, n) -> Scene.flip(x, n, 0, 1, 0));
        scene.range("the product", 0, 2, Scene.INDEX, n -> 0, (x, n) -> Scene.flip(x, 0, n, n == 0 ? 1 : 0, 0));
        scene.range("the other", 0, 2, Scene.INDEX, n -> 0, (x, n) -> Scene.flip(x, 0, n == 0 ? 1 : 0, n, 0));
        scene.index("neither product", x -> Scene.flip(x, 0, 3, 4, 0));
        scene.index("no product, twice the same", x -> Scene.flip(x, 0, 3, 3, 0));
        scene.index("no product -1, twice the same", x -> Scene.flip(x, 0, -1, -1, 0));
        scene.index("no side, the same product", x -> Scene.flip(x, 0, 1, 1, 3));
        scene.index("no side -1, the same product", x -> Scene.flip(x, 0, 1, 1, -1));
        scene.index("no way, the same product", x -> Scene.flip(x, 1, 1, 1, 0));
        scene.index("the last of 40, as there are 3", x -> Scene.flip(x, 0, 0, 39, 0));
        Scene unlike = way(3, TWO, 1, 1, 1, 2, 2, 2);
        unlike.index("no side of unlike ones", x -> Scene.flip(x, 0, 0, 1, 3));
        way(3, TWO).index("no products at all", x -> Scene.flip(x, 0, 0, 0, 0));
        way(3, TWO, 1, 1, 1).index("a single product", x -> Scene.flip(x, 0, 0, 1, 0));
        FORTY.range("one of 40", 0, 39, Scene.INDEX, n -> 0, (x, n) -> Scene.flip(x, 0, n, n == 39 ? 0 : 39, 0));
        FORTY.range("the other of 40", 0, 39, Scene.INDEX, n -> 0, (x, n) -> Scene.flip(x, 0, n == 0 ? 39 : 0, n, 0));
        scene.then(x -> x.reduce(0)).index("one that was taken out", x -> Scene.flip(x, 0, 0, 2, 0));
    }

    // Promise 14: "Throws IllegalArgumentException if they are the same product"
    private static void flipSame() {
        Scene scene = way(3, TWO, 4, 5, 6, 4, 7, 8);
        for (int side = 0; side < 3; side++) {
            int at = side;
            scene.argument("the first one at side " + at, x -> Scene.flip(x, 0, 0, 0, at));
            scene.argument("the last one at side " + at, x -> Scene.flip(x, 0, 1, 1, at));
        }
        FORTY.argument("the last of 40", x -> Scene.flip(x, 0, 39, 39, 2));
        way(3, TWO, 0, 0, 0).argument("one of zeros", x -> Scene.flip(x, 0, 0, 0, 0));
    }

    // Promise 14: "Throws IllegalStateException if their vectors are unlike there"
    private static void flipUnlike() {
        // They are unlike in one number alone, the first or the last one.
        int[][] unlike = {{0, 1}, {0, 27}, {80, 79}, {80, 53}, {40, 41}, {40, 67}};
        for (int[] codes : unlike) {
            Scene first = way(3, new int[] {4, 4, 4}, codes[0], 5, 6, codes[1], 5, 6);
            first.state("unlike at side 0", x -> Scene.flip(x, 0, 0, 1, 0));
            first.answers("alike at side 1", 0, x -> Scene.flip(x, 0, 0, 1, 1));
            first.answers("alike at side 2", 0, x -> Scene.flip(x, 0, 1, 0, 2));
            Scene second = way(3, new int[] {4, 4, 4}, 5, codes[0], 6, 5, codes[1], 6);
            second.state("unlike at side 1", x -> Scene.flip(x, 0, 0, 1, 1));
            second.answers("alike at side 0", 0, x -> Scene.flip(x, 0, 0, 1, 0));
            second.answers("alike at side 2", 0, x -> Scene.flip(x, 0, 1, 0, 2));
            Scene third = way(3, new int[] {4, 4, 4}, 5, 6, codes[0], 5, 6, codes[1]);
            third.state("unlike at side 2", x -> Scene.flip(x, 0, 0, 1, 2));
            third.answers("alike at side 0", 0, x -> Scene.flip(x, 0, 0, 1, 0));
            third.answers("alike at side 1", 0, x -> Scene.flip(x, 0, 1, 0, 1));
        }
        // The same code at two sides does not count.
        way(3, TWO, 1, 2, 3, 3, 1, 2).state("alike at other sides", x -> Scene.flip(x, 0, 0, 1, 0));
    }

    // ---- reduce

    // Promise 15: "Reduces a way."
    private static void reduceWay() {
        way(2, TWO).leaves("no products", "", x -> x.reduce(0));
        way(2, TWO, 1, 1, 1).leaves("one", "1,1,1", x -> x.reduce(0));
        way(2, TWO, 0, 1, 1).leaves("one with zeros", "", x -> x.reduce(0));
        way(2, TWO, 1, 1, 1, 2, 2, 1).leaves("two that are alike at one side", "1,1,1 2,2,1", x -> x.reduce(0));
        way(2, TWO, 1, 1, 1, 1, 2, 1).leaves("two that are alike at two", "1,3,1", x -> x.reduce(0));
        way(2, TWO, 1, 1, 1, 1, 1, 1).leaves("two that are alike by 2", "", x -> x.reduce(0));
        way(3, TWO, 1, 1, 1, 1, 1, 1).leaves("two that are alike by 3", "1,1,2", x -> x.reduce(0));
        FORTY.leaves("40 that are alike by 3", "1,1,2", x -> x.reduce(0));
        FORTY.then(x -> x.reduce(0)).leaves("a way that is reduced", "1,1,2", x -> x.reduce(0));
    }

    // Promise 15: "Returns how many products are taken out."
    private static void reduceCount() {
        way(2, TWO).answers("of none", 0, x -> x.reduce(0));
        way(2, TWO, 1, 1, 1, 2, 2, 1).answers("of two that are unlike", 0, x -> x.reduce(0));
        way(2, TWO, 1, 1, 1, 2, 0, 1).answers("one with zeros", 1, x -> x.reduce(0));
        way(2, TWO, 1, 1, 1, 1, 1, 2).answers("one of two", 1, x -> x.reduce(0));
        way(2, TWO, 1, 1, 1, 1, 1, 1).answers("two of two, as their sum is zeros", 2, x -> x.reduce(0));
        way(2, TWO).times(40, (x, time) -> x.multiply(0, 0, 1, 1)).answers("all 40 with zeros", 40, x -> x.reduce(0));
        for (int prime : PRIMES) {
            // As many as the prime come to zeros, and go too.
            for (int count : new int[] {1, 2, 3, 4, 5, 38, 39, 40}) {
                int left = count % prime == 0 ? 0 : 1;
                way(prime, TWO).times(count, (x, time) -> x.multiply(0, 1, 2, 1))
                        .answers(count + " that are alike by " + prime, count - left, x -> x.reduce(0));
            }
        }
    }

    // Promise 15: "Throws IndexOutOfBoundsException if there is no such way"
    private static void reduceNowhere() {
        Scene.filled(2, 1, 2).range("the way", 0, 1, Scene.INDEX, way -> 0, (x, way) -> x.reduce(way));
        FULL.range("one of 16", 0, 15, Scene.INDEX, way -> 0, (x, way) -> x.reduce(way));
        FORTY.range("one of 2", 0, 1, Scene.INDEX, way -> way == 0 ? 39 : 0, (x, way) -> x.reduce(way));
    }

    // ---- walk

    private static long draws(long state, int times) {
        long drawn = state;
        for (int time = 0; time < times; time++) {
            drawn = (drawn * 25173 + 13849) % 65536;
        }
        return drawn;
    }

    // Promise 16: "Walks a way."
    private static void walkWay() {
        way(2, TWO).leaves("no products", "", x -> x.walk(0, 1, 200));
        way(2, TWO, 1, 2, 3).leaves("a single product", "1,2,3", x -> x.walk(0, 1, 200));
        way(2, TWO, 0, 2, 3).leaves("it reduces, also with no flip", "", x -> x.walk(0, 1, 1));
        // Of two products that are alike at side 0 alone, these states flip the first, and the last, or neither.
        for (int state = 0; state < 65536; state += 257) {
            Scene scene = way(5, new int[] {3, 3, 3}, 7, 31, 1, 7, 11, 26);
            int from = state;
            int product = (int) (draws(from, 1) % 2);
            int other = (int) (draws(from, 2) % 2);
            boolean flips = product != other && draws(from, 3) % 3 == 0;
            Scene due = flips ? scene.flip(0, product, other, 0) : scene;
            scene.leaves("a step from " + from, Scene.products(due.made(), 0), x -> x.walk(0, from, 1));
        }
    }

    // Promise 16: "state: 0 to 65535"
    private static void walkState() {
        way(2, TWO, 1, 2, 3).range("state", 0, 65535, Scene.ARGUMENT, state -> draws(state, 3),
                (x, state) -> x.walk(0, state, 1));
    }

    // Promise 16: "steps: 1 to 200"
    private static void walkSteps() {
        way(2, TWO, 1, 2, 3).range("steps", 1, 200, Scene.ARGUMENT, steps -> draws(65535, 3 * steps),
                (x, steps) -> x.walk(0, 65535, steps));
    }

    // Promise 16: "Returns the state then."
    private static void walkReturns() {
        for (int state : new int[] {0, 1, 32767, 32768, 65534, 65535}) {
            way(2, TWO).answers("no products: the state as it was", state, x -> x.walk(0, state, 200));
            way(2, TWO, 1, 1, 1).answers("one product", draws(state, 600), x -> x.walk(0, state, 200));
            // It is gone behind the first step, and nothing is drawn from then on.
            way(2, TWO, 1, 1, 0).answers("one that goes", draws(state, 3), x -> x.walk(0, state, 200));
            FORTY.answers("one that is left of 40", draws(state, 600), x -> x.walk(0, state, 200));
        }
    }

    // Promise 16: "Throws IndexOutOfBoundsException if there is no such way"
    private static void walkNowhere() {
        Scene.filled(2, 1, 2).range("the way", 0, 1, Scene.INDEX, way -> 7, (x, way) -> x.walk(way, 7, 1));
        FULL.range("one of 16", 0, 15, Scene.INDEX, way -> 7, (x, way) -> x.walk(way, 7, 200));
        FORTY.index("no way, and no state", x -> x.walk(2, -1, 1));
        FORTY.index("no way, and no steps", x -> x.walk(-1, 0, 0));
        FORTY.index("no way, no state and too many steps", x -> x.walk(2, 65536, 201));
    }

    // Promise 16: "Throws IllegalArgumentException if state or steps is out of range"
    private static void walkWrong() {
        Scene scene = way(2, TWO, 1, 2, 3, 1, 3, 2);
        for (int state : new int[] {MIN, -65536, -1, 65536, 65537, 131072, MAX}) {
            scene.argument("the state " + state, x -> x.walk(0, state, 1));
            scene.argument("the state " + state + ", and no steps", x -> x.walk(0, state, 0));
        }
        for (int steps : new int[] {MIN, -200, -1, 0, 201, 202, 1 << 20, MAX}) {
            scene.argument("so many steps as " + steps, x -> x.walk(0, 0, steps));
        }
        way(2, TWO).argument("no products, and no state", x -> x.walk(0, 65536, 1));
        way(2, TWO).argument("no products, and too many steps", x -> x.walk(0, 65535, 201));
    }

    public static void main(String[] args) {
        wayWithoutProducts();
        wayNumber();
        wayForNone();
        wayBehindSixteen();
        productBehindOthers();
        firstCode();
        secondCode();
        thirdCode();
        productCount();
        multiplyNowhere();
        multiplyNoCode();
        multiplyBehindForty();
        plainProducts();
        plainCount();
        plainNowhere();
        plainBehindForty();
        flipTwo();
        flipSide();
        flipNowhere();
        flipSame();
        flipUnlike();
        reduceWay();
        reduceCount();
        reduceNowhere();
        walkWay();
        walkState();
        walkSteps();
        walkReturns();
        walkNowhere();
        walkWrong();
        Due.end();
    }
}
