/**
 * The chapter "Terms" at its boundaries, and what the document tells ahead of it. Each sentence, or the part of it
 * that has a boundary, is told ahead of the test that holds it.
 */
public final class TermEdgesTest {
    private static final int[] PRIMES = {2, 3, 5};
    private static final int[] ONE = {1, 1, 1};
    private static final int[] TWO = {2, 2, 2};
    private static final int[] FOUR = {4, 4, 4};
    private static final Scene NEW = new Scene();
    private static final Scene FULL = Scene.filled(2, 16, 16);

    /** Every call that adds a cube; the last two need a cube of number 0. */
    private static final Scene.Call[] MAKERS = {x -> x.cube(1, 1, 1), x -> x.matrices(1, 1, 1),
        x -> x.polynomials(1, 1), x -> x.group(1), x -> x.sum(0, 0), x -> x.product(0, 0)};

    /** A cube of number 0, a way of number 0 for it, and its products. */
    private static Scene way(int prime, int[] sizes, int... codes) {
        return new Scene(prime).cube(0, sizes).then(x -> x.way(0)).products(0, codes);
    }

    private static int[] all(int length, int number) {
        int[] numbers = new int[length];
        java.util.Arrays.fill(numbers, number);
        return numbers;
    }

    private static int remainder(int number, int by) {
        return Math.floorMod(number, by);
    }

    // ---- what it is

    // What it is: "An object is used for at most 512 calls after it has been made"
    private static void calls() {
        Bilinearium x = new Bilinearium();
        for (int call = 1; call <= 512; call++) {
            int due = call % 2 == 1 ? call == 1 ? 2 : 3 : 5;
            Due.is("call " + call, due, x.prime(call % 2 == 1 ? 5 : 3));
        }
        // The same with as much kept as there may be, and the dearest calls.
        Bilinearium y = FULL.times(40, (z, time) -> z.multiply(0, 1, 1, 1)).made();
        for (int call = 74; call <= 510; call++) {
            Due.is("call " + call, 0, y.walk(15, 0, 200));
        }
        Due.index("call 511", () -> y.walk(16, 0, 200));
        Due.is("call 512", 40, y.reduce(0));
    }

    // ---- cubes

    // Terms: "The prime is 2, 3 or 5, at first 2"
    private static void primes() {
        for (int number = -1; number < 8; number++) {
            int prime = number;
            if (prime == 2 || prime == 3 || prime == 5) {
                NEW.answers("the prime " + prime + " behind 2", 2, x -> x.prime(prime));
            } else {
                NEW.argument("no prime " + prime, x -> x.prime(prime));
            }
        }
    }

    // Terms: "it can be told as long as there are no cubes"
    private static void primeAheadOfCubes() {
        Scene told = new Scene(3).then(x -> x.prime(5)).then(x -> x.prime(3));
        told.answers("many times", 3, x -> x.prime(2));
        for (int maker = 0; maker < 4; maker++) {
            told.then(MAKERS[maker]).state("not with a cube", x -> x.prime(2));
        }
        for (Scene.Call maker : MAKERS) {
            told.then(x -> x.cube(1, 1, 1)).then(maker).state("not with two", x -> x.prime(3));
        }
    }

    // Terms: "all numbers are remainders by it, 0 to less than it"
    private static void remainders() {
        for (int prime : PRIMES) {
            int last = prime - 1;
            Scene scene = new Scene(prime).cube(0, TWO, all(8, last)).then(x -> x.sum(0, 0))
                    .then(x -> x.product(0, 0)).then(x -> x.move(0, 0, 0, 1, last));
            Bilinearium x = scene.made();
            Due.same("moved", ("" + last).repeat(4) + ("" + remainder(last + last * last, prime)).repeat(4),
                    Scene.numbers(x, 0, 2, 2, 2).replaceAll("[, ]", ""));
            Due.same("summed", ("" + remainder(2 * last, prime)).repeat(8),
                    Scene.numbers(x, 1, 2, 2, 2).replaceAll("[, ]", ""));
            Due.same("multiplied", ("" + remainder(last * last, prime)).repeat(64),
                    Scene.numbers(x, 2, 4, 4, 4).replaceAll("[, ]", ""));
            scene.range("a number", 0, last, Scene.ARGUMENT, n -> last, (y, n) -> y.set(0, 0, 0, 0, n));
        }
    }

    // Terms: "Cubes are numbered from 0, at most 16"
    private static void sixteenCubes() {
        for (Scene.Call maker : MAKERS) {
            Scene one = new Scene(2).then(x -> x.cube(1, 1, 1));
            one.answers("the second", 1, maker);
            one.times(14, (x, time) -> maker.on(x)).answers("the sixteenth", 15, maker);
            Scene sixteen = one.times(15, (x, time) -> maker.on(x));
            for (Scene.Call other : MAKERS) {
                sixteen.state("the seventeenth", other);
            }
            sixteen.answers("the last one", 0, x -> x.way(15));
            sixteen.index("none behind it", x -> x.at(16, 0, 0, 0));
        }
    }

    // Terms: "with three sizes, 1 to 4 each"
    private static void sizes() {
        for (int size = -1; size < 7; size++) {
            int told = size;
            Scene.Call[] calls = {x -> x.cube(told, 4, 1), x -> x.cube(1, told, 4), x -> x.cube(4, 1, told)};
            for (Scene.Call call : calls) {
                if (told >= 1 && told <= 4) {
                    NEW.answers("the size " + told, 0, call);
                } else {
                    NEW.argument("no size " + told, call);
                }
            }
        }
    }

    // Terms: "a cube has a number for each i, j and k, from 0, less than the first, second and third size"
    private static void places() {
        int[][] all = {{1, 2, 3}, {2, 3, 4}, {3, 4, 1}, {4, 1, 2}, {1, 1, 1}, {4, 4, 4}};
        for (int[] sizes : all) {
            Scene scene = new Scene(3).cube(0, sizes, all(sizes[0] * sizes[1] * sizes[2], 2));
            scene.range("i", 0, sizes[0] - 1, Scene.INDEX, i -> 2, (x, i) -> x.at(0, i, sizes[1] - 1, sizes[2] - 1));
            scene.range("j", 0, sizes[1] - 1, Scene.INDEX, j -> 2, (x, j) -> x.at(0, sizes[0] - 1, j, sizes[2] - 1));
            scene.range("k", 0, sizes[2] - 1, Scene.INDEX, k -> 2, (x, k) -> x.at(0, sizes[0] - 1, sizes[1] - 1, k));
        }
    }

    // Terms: "A vector of a size is told as a code: its last number, and the prime times the code of those ahead of
    // it; 0 for none."
    private static void codes() {
        for (int prime : PRIMES) {
            for (int size = 1; size < 5; size++) {
                int[] sizes = {size, 1, 1};
                int power = 1;
                for (int behind = 0; behind < size; behind++) {
                    int place = size - 1 - behind;
                    for (int number = 1; number < prime; number++) {
                        int[] numbers = all(size, 0);
                        numbers[place] = number;
                        new Scene(prime).cube(0, sizes, numbers).then(x -> x.way(0)).then(x -> x.plain(0))
                                .answers(number + " ahead of " + behind, number * power, x -> x.vector(0, 0, 0));
                    }
                    power *= prime;
                }
                int codes = power;
                Scene scene = way(prime, sizes);
                scene.answers("the greatest code", 1, x -> x.multiply(0, codes - 1, 0, 0));
                scene.argument("one more", x -> x.multiply(0, codes, 0, 0));
            }
        }
    }

    // Terms: "The cube of a product of an a by b matrix with a b by c one has the sizes a times b, b times c and
    // a times c, rows ahead: it is 1 for i, j, k, if i is the place of row r and column s, j that of row s and
    // column t, and k that of row r and column t, otherwise 0; a place is the row times how many columns there are,
    // and the column."
    private static void matrices() {
        for (int a = 1; a < 5; a++) {
            for (int b = 1; a * b < 5; b++) {
                for (int c = 1; a * c < 5 && b * c < 5; c++) {
                    matrices(a, b, c);
                }
            }
        }
    }

    private static void matrices(int a, int b, int c) {
        Scene scene = new Scene(5).then(x -> x.matrices(a, b, c));
        int[] due = new int[a * b * b * c * a * c];
        for (int r = 0; r < a; r++) {
            for (int s = 0; s < b; s++) {
                for (int t = 0; t < c; t++) {
                    due[((r * b + s) * b * c + s * c + t) * a * c + r * c + t] = 1;
                }
            }
        }
        StringBuilder told = new StringBuilder();
        for (int number : due) {
            told.append(number);
        }
        Due.same("matrices " + a + b + c, told.toString(),
                Scene.numbers(scene.made(), 0, a * b, b * c, a * c).replaceAll("[, ]", ""));
        scene.index("no further i of " + a + b + c, x -> x.at(0, a * b, 0, 0));
        scene.index("no further j of " + a + b + c, x -> x.at(0, 0, b * c, 0));
        scene.index("no further k of " + a + b + c, x -> x.at(0, 0, 0, a * c));
    }

    // Terms: "That of polynomials with a and b numbers has the sizes a, b, and a and b, together, less 1: 1 where k
    // is i and j together."
    private static void polynomials() {
        for (int first = 1; first < 5; first++) {
            for (int second = 1; first + second < 6; second++) {
                int a = first;
                int b = second;
                Scene scene = new Scene(2).then(x -> x.polynomials(a, b));
                scene.answers("the last ones together", 1, x -> x.at(0, a - 1, b - 1, a + b - 2));
                scene.index("the last k is that", x -> x.at(0, a - 1, b - 1, a + b - 1));
                scene.index("the last i", x -> x.at(0, a, 0, 0));
                scene.index("the last j", x -> x.at(0, 0, b, 0));
                String told = Scene.numbers(scene.made(), 0, a, b, a + b - 1);
                Due.is("one 1 for each of " + a + b, a * b, told.chars().filter(sign -> sign == '1').count());
                for (int i = 0; i < a; i++) {
                    for (int j = 0; j < b; j++) {
                        int k = i + j;
                        Due.is(i + " and " + j + " together", 1, scene.made().at(0, i, j, k));
                    }
                }
            }
        }
    }

    // Terms: "That of a group of n has the sizes n: 1 where k is the remainder of i and j together by n."
    private static void groups() {
        for (int size = 1; size < 5; size++) {
            int n = size;
            Bilinearium x = new Scene(2).then(y -> y.group(n)).made();
            for (int i = 0; i < n; i++) {
                for (int j = 0; j < n; j++) {
                    for (int k = 0; k < n; k++) {
                        // i and j together come round at n.
                        boolean due = k == (i + j < n ? i + j : i + j - n);
                        Due.is("a group of " + n + " at " + i + j + k, due ? 1 : 0, x.at(0, i, j, k));
                    }
                }
            }
            Due.index("no further i", () -> x.at(0, n, 0, 0));
            Due.index("no further j", () -> x.at(0, 0, n, 0));
            Due.index("no further k", () -> x.at(0, 0, 0, n));
        }
    }

    // Terms: "A move of a cube adds a slice, times a number, to another one of the same side: side 0 are those of
    // one i, 1 of one j, 2 of one k."
    private static void moves() {
        for (int prime : PRIMES) {
            for (int side = 0; side < 3; side++) {
                int[] sizes = {side == 0 ? 2 : 1, side == 1 ? 2 : 1, side == 2 ? 2 : 1};
                for (int from = 1; from < prime; from++) {
                    for (int to = 0; to < prime; to++) {
                        for (int times = 1; times < prime; times++) {
                            moves(prime, side, sizes, from, to, times);
                        }
                    }
                }
            }
        }
    }

    private static void moves(int prime, int side, int[] sizes, int from, int to, int times) {
        Scene scene = new Scene(prime).cube(0, sizes, to, from);
        int due = remainder(to + from * times, prime);
        String what = times + " times " + from + " to " + to + " by " + prime;
        scene.answers(what, due == 0 ? 1 : 2, x -> x.move(0, side, 1, 0, times));
        Bilinearium x = scene.then(y -> y.move(0, side, 1, 0, times)).made();
        Due.is(what, due, x.at(0, 0, 0, 0));
        Due.is(what + " leaves the slice", from, x.at(0, sizes[0] - 1, sizes[1] - 1, sizes[2] - 1));
    }

    // Terms: "The sum of two cubes of the same sizes has their sums"
    private static void sums() {
        for (int prime : PRIMES) {
            int[] numbers = all(64, prime - 1);
            int[] others = all(64, 1);
            others[63] = 0;
            Bilinearium x = new Scene(prime).cube(0, FOUR, numbers).then(y -> y.cube(4, 4, 4))
                    .times(64, (y, at) -> y.set(1, at / 16, at / 4 % 4, at % 4, others[at]))
                    .then(y -> y.sum(0, 1)).made();
            Due.same("sums that come round by " + prime + ", but for the last", "0".repeat(63) + (prime - 1),
                    Scene.numbers(x, 2, 4, 4, 4).replaceAll("[, ]", ""));
        }
        int[][] unlike = {{1, 2, 4}, {1, 4, 2}, {2, 1, 4}, {2, 4, 1}, {4, 1, 2}, {4, 2, 1}};
        for (int[] sizes : unlike) {
            Bilinearium x = new Scene(5).cube(0, sizes, 4, 1, 2, 3, 4, 1, 2, 3).then(y -> y.sum(0, 0)).made();
            Due.same("each number twice", "32413241", Scene.numbers(x, 1, sizes[0], sizes[1], sizes[2])
                    .replaceAll("[, ]", ""));
            Due.index("no further i", () -> x.at(1, sizes[0], 0, 0));
            Due.index("no further j", () -> x.at(1, 0, sizes[1], 0));
            Due.index("no further k", () -> x.at(1, 0, 0, sizes[2]));
        }
    }

    // Terms: "the product of two has the products of their sizes, and at i, j, k the product of what the first has at
    // their quotients and the second at their remainders by the second one's sizes, rounded down."
    private static void products() {
        // At a boundary of quotients: i of 1 is the last remainder, i of 2 the next quotient.
        Scene scene = new Scene(5).cube(0, new int[] {2, 1, 1}, 2, 3).cube(1, new int[] {2, 1, 1}, 1, 2)
                .then(x -> x.product(0, 1)).then(x -> x.product(1, 0));
        int[] due = {2, 4, 3, 1};
        int[] turned = {2, 3, 4, 1};
        scene.range("i", 0, 3, Scene.INDEX, i -> due[i], (x, i) -> x.at(2, i, 0, 0));
        scene.range("i, turned round", 0, 3, Scene.INDEX, i -> turned[i], (x, i) -> x.at(3, i, 0, 0));
        // With unlike sizes of both at each side.
        int[][] small = {{3, 1, 1}, {1, 3, 1}, {1, 1, 3}};
        int[][] large = {{1, 4, 2}, {2, 1, 4}, {4, 2, 1}};
        for (int at = 0; at < 3; at++) {
            int[] a = small[at];
            int[] b = large[at];
            Bilinearium x = new Scene(5).cube(0, a, 1, 2, 3).cube(1, b, 1, 2, 3, 4, 1, 2, 3, 4)
                    .then(y -> y.product(0, 1)).then(y -> y.product(1, 0)).made();
            for (int i = 0; i < a[0] * b[0]; i++) {
                for (int j = 0; j < a[1] * b[1]; j++) {
                    for (int k = 0; k < a[2] * b[2]; k++) {
                        int left = x.at(0, i / b[0], j / b[1], k / b[2]) * x.at(1, i % b[0], j % b[1], k % b[2]);
                        Due.is("the product", left % 5, x.at(2, i, j, k));
                        int right = x.at(1, i / a[0], j / a[1], k / a[2]) * x.at(0, i % a[0], j % a[1], k % a[2]);
                        Due.is("the product, turned round", right % 5, x.at(3, i, j, k));
                    }
                }
            }
        }
    }

    // Terms: "A flattening of a side is the matrix whose rows are the slices of that side, with all numbers of a
    // slice in a row; its rank is by the prime."
    private static void flattenings() {
        // 1,2 and 2,1: they differ by 3 from being alone; 1,4 and 4,1 by 15; 1,1,0 and 0,1,1 and 1,0,1 by 2.
        int[][] sizes = {{2, 2, 1}, {2, 1, 2}, {1, 2, 2}};
        for (int at = 0; at < 3; at++) {
            int[] told = sizes[at];
            int side = at == 2 ? 1 : 0;
            new Scene(3).cube(0, told, 1, 2, 2, 1).answers("1,2 and 2,1 by 3", 1, x -> x.flattening(0, side));
            new Scene(5).cube(0, told, 1, 2, 2, 1).answers("1,2 and 2,1 by 5", 2, x -> x.flattening(0, side));
            new Scene(5).cube(0, told, 1, 4, 4, 1).answers("1,4 and 4,1 by 5", 1, x -> x.flattening(0, side));
            new Scene(5).cube(0, told, 1, 4, 4, 2).answers("1,4 and 4,2 by 5", 2, x -> x.flattening(0, side));
            new Scene(2).cube(0, told, 1, 1, 1, 1).answers("1,1 twice by 2", 1, x -> x.flattening(0, side));
            new Scene(2).cube(0, told, 1, 1, 1, 0).answers("1,1 and 1,0 by 2", 2, x -> x.flattening(0, side));
        }
        int[] three = {1, 1, 0, 0, 1, 1, 1, 0, 1};
        new Scene(2).cube(0, new int[] {3, 3, 1}, three).answers("by 2", 2, x -> x.flattening(0, 0));
        new Scene(3).cube(0, new int[] {3, 3, 1}, three).answers("by 3", 3, x -> x.flattening(0, 0));
        new Scene(5).cube(0, new int[] {3, 3, 1}, three).answers("by 5", 3, x -> x.flattening(0, 1));
        // All numbers of a slice are in its row: these slices are alike but for the last number.
        int[] last = all(64, 1);
        last[63] = 0;
        for (int side = 0; side < 3; side++) {
            int at = side;
            new Scene(3).cube(0, FOUR, last).answers("all but the last number", 2, x -> x.flattening(0, at));
        }
    }

    // Terms: "The bound of a cube is the greatest of the three."
    private static void bounds() {
        // Ranks of 1 and 2 and 2, 2 and 1 and 2, 2 and 2 and 1, and of all alike.
        int[][] sizes = {{1, 2, 2}, {2, 1, 2}, {2, 2, 1}};
        for (int at = 0; at < 3; at++) {
            int[] told = sizes[at];
            int low = at;
            Scene scene = new Scene(3).cube(0, told, 1, 0, 0, 2);
            scene.answers("the lowest", 1, x -> x.flattening(0, low));
            scene.answers("the bound", 2, x -> x.bound(0));
        }
        new Scene(3).cube(0, TWO, all(8, 2)).answers("all alike", 1, x -> x.bound(0));
        new Scene(3).cube(0, TWO).answers("all 0", 0, x -> x.bound(0));
    }

    // ---- ways

    // Terms: "Ways are numbered from 0, at most 16: each is for a cube, as it is then"
    private static void sixteenWays() {
        for (int count = 0; count < 16; count++) {
            Scene.filled(2, 2, count).answers("the number of a way", count, x -> x.way(1));
        }
        FULL.state("the seventeenth", x -> x.way(0));
        FULL.answers("the last one", 1, x -> x.multiply(15, 1, 1, 1));
        FULL.index("none behind it", x -> x.multiply(16, 1, 1, 1));
        // 16 ways leave room for cubes, and 16 cubes for ways.
        Scene.filled(2, 1, 16).answers("a cube beside 16 ways", 1, x -> x.cube(1, 1, 1));
        Scene.filled(2, 16, 0).answers("a way beside 16 cubes", 0, x -> x.way(15));
    }

    // Terms: "each is for a cube, as it is then, and has up to 40 products, from 0, each of three vectors, of the
    // three sizes."
    private static void waysAsThen() {
        Scene ahead = new Scene(3).cube(0, TWO, 1, 0, 0, 0, 0, 0, 0, 2);
        Scene scene = ahead.then(x -> x.way(0)).then(x -> x.set(0, 1, 1, 1, 0)).then(x -> x.move(0, 0, 0, 1, 2))
                .then(x -> x.way(0));
        scene.answers("the last number as it was", 2, x -> x.resultByCube(0, 1, 1, 1));
        scene.answers("the last number as it is", 0, x -> x.resultByCube(1, 1, 1, 1));
        scene.answers("what was moved then", 0, x -> x.resultByCube(0, 1, 2, 0));
        scene.answers("the first number as it was", 1, x -> x.resultByCube(0, 3, 3, 0));
        scene.answers("the number moved to, as it is", 2, x -> x.resultByCube(1, 1, 3, 0));
        scene.leaves("plain products as it was", "3,3,3 2,1,1", x -> x.plain(0));
        scene.answers("plain products as it is", 2, x -> x.plain(1));
        // 39 and one are 40, of which the last is 39; vectors are of the sizes of that cube.
        Scene most = way(2, new int[] {1, 2, 3}).times(39, (x, time) -> x.multiply(0, 1, 3, 7));
        most.answers("the fortieth", 40, x -> x.multiply(0, 1, 3, 7));
        most.index("none of 39 yet", x -> x.vector(0, 39, 0));
        Scene forty = most.then(x -> x.multiply(0, 1, 3, 7));
        forty.state("the forty-first", x -> x.multiply(0, 1, 3, 7));
        forty.answers("that of 39", 7, x -> x.vector(0, 39, 2));
        forty.index("none of 40", x -> x.vector(0, 40, 2));
        most.argument("too great a first", x -> x.multiply(0, 2, 3, 7));
        most.argument("too great a second", x -> x.multiply(0, 1, 4, 7));
        most.argument("too great a third", x -> x.multiply(0, 1, 3, 8));
    }

    // Terms: "The cube of a way is, at i, j, k, the sum over its products of the i-th number of the first vector, the
    // j-th of the second and the k-th of the third, multiplied; a way holds if that is the cube for which it is."
    private static void holding() {
        way(3, FOUR).answers("nothing holds for zeros", 0, x -> x.ofWay(0, 1));
        Scene one = new Scene(3).cube(0, FOUR, 1).then(x -> x.way(0));
        one.answers("nothing does not for one", 1, x -> x.ofWay(0, 1));
        one.products(0, 27, 27, 27).answers("one product does", 0, x -> x.ofWay(0, 1));
        one.products(0, 54, 27, 54).answers("2 times 2 is 1", 0, x -> x.ofWay(0, 1));
        one.products(0, 54, 27, 27).answers("2 is not 1", 1, x -> x.ofWay(0, 1));
        one.products(0, 27, 27, 9).answers("another place is two wrong ones", 2, x -> x.ofWay(0, 1));
        one.products(0, 80, 80, 40).answers("all places, of which the first is right", 63, x -> x.ofWay(0, 1));
        for (int prime : PRIMES) {
            for (int count = 0; count < 8; count++) {
                int times = count;
                int wrong = times % prime == 1 ? 0 : 1;
                new Scene(prime).cube(0, ONE, 1).then(x -> x.way(0))
                        .times(times, (x, time) -> x.multiply(0, 1, 1, 1))
                        .answers(times + " times 1 by " + prime, wrong, x -> x.ofWay(0, 1));
            }
        }
    }

    // Terms: "A flip of two products of a way, with unlike numbers, that have the same vector at a side: of the two
    // other sides, the lower one first, the vector of the first product becomes the sum of both at the first of these
    // sides; at the second of these sides that of the second product becomes less by that of the first."
    private static void flips() {
        for (int prime : PRIMES) {
            for (int low = 0; low < prime; low++) {
                for (int high = 0; high < prime; high++) {
                    int sum = remainder(low + high, prime);
                    int less = remainder(high - low, prime);
                    flips(prime, low, high, sum, less);
                }
            }
        }
        way(2, TWO, 1, 1, 1, 1, 2, 2).argument("with itself", x -> Scene.flip(x, 0, 1, 1, 0));
        way(2, TWO, 1, 1, 1, 2, 2, 2).state("unlike vectors", x -> Scene.flip(x, 0, 0, 1, 0));
    }

    private static void flips(int prime, int low, int high, int sum, int less) {
        String what = low + " and " + high + " by " + prime;
        way(prime, ONE, 1, low, low, 1, high, high).leaves(what + " at side 0",
                "1," + sum + "," + low + " 1," + high + "," + less, x -> Scene.flip(x, 0, 0, 1, 0));
        way(prime, ONE, low, 1, low, high, 1, high).leaves(what + " at side 1",
                sum + ",1," + low + " " + high + ",1," + less, x -> Scene.flip(x, 0, 0, 1, 1));
        way(prime, ONE, low, low, 1, high, high, 1).leaves(what + " at side 2",
                sum + "," + low + ",1 " + high + "," + less + ",1", x -> Scene.flip(x, 0, 0, 1, 2));
    }

    // Terms: "To reduce a way, as long as one of these is possible, the former if it is: the lowest product with a
    // vector of zeros is taken out"
    private static void reducingZeros() {
        way(2, TWO, 0, 1, 1).leaves("zeros at side 0", "", x -> x.reduce(0));
        way(2, TWO, 1, 0, 1).leaves("zeros at side 1", "", x -> x.reduce(0));
        way(2, TWO, 1, 1, 0).leaves("zeros at side 2", "", x -> x.reduce(0));
        way(2, TWO, 0, 0, 0).leaves("zeros at all", "", x -> x.reduce(0));
        way(5, FOUR, 1, 1, 1, 125, 125, 125).leaves("a single number is not zeros", "1,1,1 125,125,125",
                x -> x.reduce(0));
        // Were the sums ahead, 1,1,1 and 1,1,2 would be 0 at the first place, and 1,1,1 the last.
        way(3, TWO, 1, 1, 1, 1, 1, 2, 2, 2, 2, 1, 1, 1, 0, 1, 1).leaves("zeros made by a sum go ahead of sums",
                "2,2,2 1,1,1", x -> x.reduce(0));
        way(2, TWO, 1, 1, 1, 0, 3, 3, 2, 2, 2, 0, 3, 3).leaves("the lowest and the last", "1,1,1 2,2,2",
                x -> x.reduce(0));
    }

    // Terms: "or, as there is none such, of the lowest product that has the same vectors at two sides as one behind
    // it, and the lowest of these behind it, whatever sides these are, the first has at the third side the sum of
    // both, and the second one is taken out; if they have them at all three, that is the side 2."
    private static void reducingAlike() {
        way(2, TWO, 1, 2, 1, 1, 3, 1).leaves("alike at 0 and 2", "1,1,1", x -> x.reduce(0));
        way(2, TWO, 2, 1, 1, 3, 1, 1).leaves("alike at 1 and 2", "1,1,1", x -> x.reduce(0));
        way(2, TWO, 1, 1, 2, 1, 1, 3).leaves("alike at 0 and 1", "1,1,1", x -> x.reduce(0));
        way(3, TWO, 4, 5, 7, 4, 5, 7).leaves("alike at all three", "4,5,5", x -> x.reduce(0));
        way(2, TWO, 1, 2, 1, 2, 3, 1).leaves("alike at one", "1,2,1 2,3,1", x -> x.reduce(0));
        // Codes that are alike at unlike sides are not alike.
        way(2, TWO, 1, 2, 3, 2, 3, 1).leaves("turned round", "1,2,3 2,3,1", x -> x.reduce(0));
        // Product 0 fits those of 1 and 2; with 2 first it would be 1,3,2 and then fit none.
        way(2, TWO, 1, 2, 2, 3, 2, 2, 1, 1, 2).leaves("the lowest behind it", "2,2,2 1,1,2", x -> x.reduce(0));
        // Both 0 and 1 fit 2, but not each other: with 1 first 1,1,1 and 3,2,1 would be left.
        way(2, TWO, 1, 1, 1, 2, 2, 1, 1, 2, 1).leaves("the lowest one", "1,3,1 2,2,1", x -> x.reduce(0));
        // The first and the last of 40.
        Scene most = way(5, FOUR, 1, 1, 1).times(38, (x, time) -> x.multiply(0, time + 2, 39 - time, time + 50));
        most.then(x -> x.multiply(0, 1, 1, 3)).answers("one of 40", 1, x -> x.reduce(0));
        most.then(x -> x.multiply(0, 1, 1, 3)).then(x -> x.reduce(0)).answers("the first is their sum", 4,
                x -> x.vector(0, 0, 2));
        most.then(x -> x.multiply(0, 1, 1, 4)).answers("zeros, if they come round", 2, x -> x.reduce(0));
    }

    // Terms: "Those behind one that is taken out come one down."
    private static void comingDown() {
        Scene first = way(2, FOUR, 0, 1, 1).times(39, (x, time) -> x.multiply(0, time % 15 + 1, 15 - time % 13,
                time / 15 * 4 + time % 4 + 1));
        Bilinearium before = first.made();
        Bilinearium after = first.then(x -> x.reduce(0)).made();
        int left = after.ofWay(0, 0);
        Due.is("39 are left", 39, left);
        for (int product = 0; product < left; product++) {
            for (int side = 0; side < 3; side++) {
                Due.is("product " + product, before.vector(0, product + 1, side), after.vector(0, product, side));
            }
        }
        Due.index("none of 39", () -> after.vector(0, 39, 0));
        way(2, TWO, 1, 1, 1, 2, 2, 2, 0, 3, 3).leaves("none is behind the last", "1,1,1 2,2,2", x -> x.reduce(0));
        way(2, TWO, 1, 1, 1, 0, 3, 3, 2, 2, 2).leaves("one is behind", "1,1,1 2,2,2", x -> x.reduce(0));
    }

    private static long drawn(long state) {
        return (state * 25173 + 13849) % 65536;
    }

    /** A walk by flips and reducing, one step after another; returns the state, and the steps until none is left. */
    private static long[] walked(Bilinearium x, long from, int steps) {
        long state = from;
        for (int step = 0; step < steps; step++) {
            int n = x.ofWay(0, 0);
            if (n == 0) {
                return new long[] {state, step};
            }
            state = drawn(state);
            int product = (int) (state % n);
            state = drawn(state);
            int other = (int) (state % n);
            state = drawn(state);
            int side = (int) (state % 3);
            if (product != other && x.vector(0, product, side) == x.vector(0, other, side)) {
                x.flip(0, product, other, side);
            }
            x.reduce(0);
        }
        return new long[] {state, steps};
    }

    private static void walks(String what, Scene scene, int step, int steps) {
        for (int state = 0; state < 65536; state += step) {
            Bilinearium due = scene.made();
            Bilinearium got = scene.made();
            int from = state;
            Due.is(what + " from " + from, walked(due, from, steps)[0], got.walk(0, from, steps));
            Due.same(what + " from " + from, Scene.products(due, 0), Scene.products(got, 0));
        }
    }

    // Terms: "A walk makes so many steps; each of them has three draws, and perhaps a flip, and then reduces the way."
    private static void walking() {
        Scene matrices = new Scene(2).then(x -> x.matrices(2, 2, 2)).then(x -> x.way(0)).then(x -> x.plain(0));
        walks("one step", matrices, 331, 1);
        walks("two steps", matrices, 331, 2);
        walks("many steps", matrices, 997, 60);
        walks("a group by 3", new Scene(3).then(x -> x.group(3)).then(x -> x.way(0)).then(x -> x.plain(0)), 997, 60);
        walks("polynomials by 5", new Scene(5).then(x -> x.polynomials(2, 3)).then(x -> x.way(0))
                .then(x -> x.plain(0)), 997, 60);
        // Its first step has more products than those behind it, as it is not reduced yet.
        walks("a way that is not reduced", way(2, TWO, 1, 2, 3, 1, 1, 1, 0, 3, 3, 1, 1, 1, 2, 1, 1, 1, 3, 2, 1, 2, 1),
                331, 5);
        // Once flipped these two are alike at two sides, as 1 less 2 is 2 by 3; that may be in any step.
        walks("a flip that lets them be reduced", way(3, new int[] {1, 2, 2}, 1, 3, 3, 1, 1, 6), 97, 1);
        walks("a flip that lets them be reduced", way(3, new int[] {1, 2, 2}, 1, 3, 3, 1, 1, 6), 97, 9);
        // Two walks are one, and 200 steps are 199 and one.
        Scene split = matrices.then(x -> x.walk(0, x.walk(0, 77, 199), 1));
        matrices.leaves("200 steps", Scene.products(split.made(), 0), x -> x.walk(0, 77, 200));
    }

    // Terms: "A draw makes the state 25173 times it, and 13849, of which the remainder by 65536 stays"
    private static void draws() {
        boolean[] seen = new boolean[65536];
        Bilinearium x = null;
        for (int state = 0; state < 65536; state++) {
            if (state % 256 == 0) {
                x = way(2, ONE, 1, 1, 1).made();
            }
            int then = x.walk(0, state, 1);
            Due.is("three draws from " + state, drawn(drawn(drawn(state))), then);
            seen[then] = true;
        }
        // Each state, 0 and 65535 among them, is behind another one.
        for (int state = 0; state < 65536; state++) {
            Due.is("some walk to " + state, 1, seen[state] ? 1 : 0);
        }
    }

    // Terms: "n being how many products there are in this step, the first product is the remainder of the state by n,
    // then, by another draw, the second one likewise, then, by another draw, the side is the remainder of the state by
    // 3; if their numbers are unlike, and they have the same vector at the side, they are flipped."
    private static void drawing() {
        // All pairs fit at side 0, and no flip can be taken for another one.
        Scene three = way(5, FOUR, 7, 125, 1, 7, 25, 5, 7, 5, 25);
        walks("pairs of three", three, 97, 1);
        // 40 products, of which each two have the same vector at side 2.
        Scene forty = way(5, FOUR).times(40, (x, time) -> x.multiply(0, 3 * time + 1, 600 - 7 * time, 9));
        walks("pairs of forty", forty, 397, 1);
        // Each side has a pair that fits.
        walks("pairs at each side", way(3, TWO, 1, 3, 5, 1, 5, 2, 6, 5, 7, 6, 4, 5), 97, 3);
    }

    // Terms: "As there is no product any more nothing is drawn."
    private static void walkingToTheEnd() {
        // By 3 these four are zeros together, but no two are alike at two sides: some walks find that.
        Scene scene = way(3, new int[] {1, 2, 2}, 1, 3, 3, 1, 1, 1, 1, 4, 4, 1, 5, 5);
        scene.answers("they cannot be reduced", 0, x -> x.reduce(0));
        int emptied = 0;
        for (int state = 0; state < 65536; state += 97) {
            int from = state;
            Bilinearium due = scene.made();
            long[] end = walked(due, from, 90);
            boolean empty = due.ofWay(0, 0) == 0;
            emptied += empty && end[1] > 1 ? 1 : 0;
            int steps = empty ? 200 : 90;
            scene.answers("a walk from " + from, end[0], x -> x.walk(0, from, steps));
        }
        Due.is("some walks end early, behind their first step", 1, emptied > 0 ? 1 : 0);
        for (int state : new int[] {0, 1, 65535}) {
            way(2, TWO).answers("none at all", state, x -> x.walk(0, state, 1));
            way(2, TWO, 1, 0, 1).answers("none behind the first step", drawn(drawn(drawn(state))),
                    x -> x.walk(0, state, 2));
        }
    }

    // ---- least

    // Terms: "The least number of products of a cube is that of a way that holds with the fewest"
    private static void least() {
        // It is not above that of any way that holds, and for small cubes a way of that many can be found.
        new Scene(2).cube(0, TWO).answers("no product holds for zeros", 0, x -> x.least(0));
        Scene karatsuba = new Scene(2).then(x -> x.polynomials(2, 2)).then(x -> x.way(0))
                .products(0, 2, 2, 6, 1, 1, 3, 3, 3, 2);
        karatsuba.answers("three products hold", 0, x -> x.ofWay(0, 1));
        karatsuba.answers("and fewer do not", 3, x -> x.least(0));
        karatsuba.answers("its bound", 3, x -> x.bound(0));
        Scene two = new Scene(2).cube(0, new int[] {1, 2, 2}, 1, 1, 1, 0).then(x -> x.way(0))
                .products(0, 1, 3, 3, 1, 1, 1);
        two.answers("two products hold", 0, x -> x.ofWay(0, 1));
        two.answers("and one does not", 2, x -> x.least(0));
        two.answers("nor is there one anew", 2, x -> x.leastAnew(0));
    }

    // Terms: "it is told for the prime 2 and cubes of at most 12 numbers."
    private static void leastTold() {
        int[][] twelve = {{1, 3, 4}, {1, 4, 3}, {3, 1, 4}, {3, 4, 1}, {4, 1, 3}, {4, 3, 1}, {2, 2, 3}, {2, 3, 2},
            {3, 2, 2}};
        for (int[] sizes : twelve) {
            new Scene(2).cube(0, sizes, all(12, 1)).answers("12 numbers", 1, x -> x.least(0));
            new Scene(3).cube(0, sizes, all(12, 1)).state("12 numbers by 3", x -> x.least(0));
        }
        int[][] sixteen = {{1, 4, 4}, {4, 1, 4}, {4, 4, 1}, {2, 2, 4}, {2, 4, 2}, {4, 2, 2}};
        for (int[] sizes : sixteen) {
            new Scene(2).cube(0, sizes, all(16, 1)).state("16 numbers", x -> x.least(0));
        }
        new Scene(2).cube(0, new int[] {2, 3, 3}).state("18 zeros", x -> x.least(0));
    }

    // ---- programs

    // Terms: "A program of a way has, for the first and the second side, a sum for each product: of the places at
    // which its vector is not 0; and for the third side a sum for each place: of the products whose third vector is
    // not 0 there."
    private static void programs() {
        int[] four = {4, 1, 1};
        way(5, four, 156, 0, 0).answers("four places of the first side", 3, x -> x.ofWay(0, 2));
        way(5, four, 624, 0, 0).answers("whatever is not 0", 3, x -> x.ofWay(0, 2));
        way(5, new int[] {1, 4, 1}, 0, 156, 0).answers("four places of the second side", 3, x -> x.ofWay(0, 2));
        way(5, new int[] {1, 1, 4}, 0, 0, 156).answers("four sums of the third side", 0, x -> x.ofWay(0, 2));
        way(5, new int[] {1, 1, 4}, 0, 0, 156, 0, 0, 624).answers("of two products each", 4, x -> x.ofWay(0, 2));
        way(5, ONE, 1, 1, 1, 1, 1, 1, 1, 1, 1, 1, 1, 1).answers("one sum of four products", 3, x -> x.ofWay(0, 2));
        way(5, ONE, 1, 1, 1, 0, 0, 1, 1, 1, 0, 1, 1, 4).answers("of three of them", 2, x -> x.ofWay(0, 2));
    }

    // Terms: "Its additions are, for each of these sums with more than one, how many it has less 1."
    private static void additions() {
        int[] first = {4, 1, 1};
        int[] due = {0, 0, 1, 2, 3};
        int[] codes = {0, 8, 12, 14, 15};
        for (int count = 0; count < 5; count++) {
            int code = codes[count];
            way(2, first, code, 0, 0).answers("a sum of " + count, due[count], x -> x.ofWay(0, 2));
            way(2, first, code, 0, 0, 15, 0, 0).answers("beside one of four", due[count] + 3, x -> x.ofWay(0, 2));
        }
        for (int count = 0; count <= 40; count++) {
            int products = count;
            way(2, ONE).times(products, (x, time) -> x.multiply(0, 0, 0, 1))
                    .answers("a sum of " + products, products > 1 ? products - 1 : 0, x -> x.ofWay(0, 2));
        }
    }

    private static void shared(String what, int[] sizes, int due, int... codes) {
        Scene scene = new Scene(2).cube(0, sizes).then(x -> x.way(0));
        for (int code : codes) {
            int[] told = {sizes[0] > 1 ? code : 0, sizes[1] > 1 ? code : 0, sizes[2] > 1 ? code : 0};
            scene = scene.products(0, told);
        }
        scene.answers(what, due, x -> x.ofWay(0, 3));
    }

    // Terms: "Shared, of each side by itself, the sums being sets"
    private static void sharedSides() {
        // The same sums at two sides are not shared, and the numbers of a sum do not matter.
        way(2, TWO, 3, 3, 0).answers("at two sides", 2, x -> x.ofWay(0, 3));
        way(2, TWO, 3, 0, 0, 3, 0, 0).answers("at one side", 1, x -> x.ofWay(0, 3));
        way(5, TWO, 6, 0, 0, 24, 0, 0, 7, 0, 0).answers("1,1 and 4,4 and 1,2", 1, x -> x.ofWay(0, 3));
        way(2, TWO, 0, 3, 3, 0, 3, 3).answers("side 1 once, side 2 once", 2, x -> x.ofWay(0, 3));
        // Two sums of two places, and the sums of products at two places.
        way(2, TWO, 3, 3, 3, 3, 3, 3).answers("each of three sides once", 3, x -> x.ofWay(0, 3));
    }

    // Terms: "as long as a pair is in two sets or more"
    private static void sharedPairs() {
        int[] first = {4, 1, 1};
        shared("no sets", first, 0);
        shared("a pair in one set", first, 1, 12);
        shared("a pair in two sets", first, 1, 12, 12);
        shared("a pair in forty sets", first, 1, java.util.Arrays.stream(new int[40]).map(code -> 12).toArray());
        shared("two pairs in one set each", first, 2, 12, 3);
        shared("one number in two sets", first, 2, 12, 10);
        shared("a pair in two sets, with others", first, 3, 14, 13);
        // 2 pairs, and what is left is in two sets again.
        shared("three places in two sets", first, 2, 14, 14);
        shared("four places in two sets", first, 3, 15, 15);
        shared("four places in one set", first, 3, 15);
        int[] third = {1, 1, 4};
        shared("side 2: a pair at one place", third, 1, 8, 8);
        shared("side 2: a pair at two places", third, 1, 12, 12);
        shared("side 2: a pair at four places", third, 1, 15, 15);
        shared("side 2: three at four places", third, 2, 15, 15, 15);
        shared("side 2: forty at four places", third, 39,
                java.util.Arrays.stream(new int[40]).map(code -> 15).toArray());
    }

    // Terms: "the pair that is in the most, of several that with the lower first one, then the lower second one"
    private static void sharedOrder() {
        int[] first = {4, 1, 1};
        // 1,3 is in three; were 0,1 first, that would need 4.
        shared("the most, not the lowest", first, 3, 15, 5, 15);
        shared("the most, not the last", first, 3, 15, 10, 15);
        // 2,3 is in three, and 1,2 in two alone: were the latter first, there would be 3.
        shared("three are more than two", first, 2, 3, 7, 7);
        // 0,1 and 0,3 and 2,3 are in two each; were 0,3 first, neither of the others would be.
        shared("the lower second one", first, 4, 12, 3, 11, 13);
        // 0,2 ahead of 2,3 leaves 1,3 in two.
        shared("the lower first one", first, 4, 3, 5, 10, 15);
        int[] third = {1, 1, 4};
        shared("side 2: the lower first one, though it saves less", third, 5, 3, 5, 10, 15);
        shared("side 2: the lower second one", third, 4, 7, 3, 9, 13);
        shared("side 2: the lower first one ahead of the lower second one", third, 11, 11, 10, 13, 13, 15, 14, 7);
    }

    // Terms: "is made once, with one addition, as a new number behind all others, and is in place of both in all these
    // sets; what is left is added as it was."
    private static void sharedNumbers() {
        int[] first = {4, 1, 1};
        // 0,3 is made as 4; then 1,2 goes ahead of 1,4, and no pair is in two any more. Were 4 ahead of all, 1,4
        // would go first, 2,3 would still be in two, and 5 would be enough.
        shared("behind all others", first, 6, 3, 7, 9, 13, 15);
        shared("side 2: behind all others", new int[] {1, 1, 4}, 5, 3, 3, 5, 10, 15);
        // 0,1 in three sets is one addition, not three; the third place is added as it was.
        shared("once, in all these sets", first, 2, 12, 12, 14);
        // The new number and 2 are a pair too.
        shared("a pair with a new number", first, 3, 14, 14, 14, 15);
    }

    // Terms: "A way for a product of matrices that are all n by n, n above 1, runs in levels: the level 0 has 1
    // multiplication, and no addition"
    private static void levelZero() {
        for (int products : new int[] {0, 1, 7, 40}) {
            Scene scene = new Scene(2).then(x -> x.matrices(2, 2, 2)).then(x -> x.way(0))
                    .times(products, (x, time) -> x.multiply(0, 15, 15, 15));
            scene.answers("one multiplication", 1, x -> x.levels(0, 0, false));
            scene.answers("no addition", 0, x -> x.levels(0, 0, true));
        }
        Scene one = new Scene(2).then(x -> x.matrices(1, 1, 1)).then(x -> x.way(0));
        one.state("n of 1", x -> x.levels(0, 0, false));
        one.state("n of 1, for additions", x -> x.levels(0, 0, true));
    }

    // Terms: "each further one has as many times the multiplications of the level below as the way has products, and
    // as many times its additions, and, for these, besides, the additions of the way, not shared, times the square of
    // n, once for each level from 1 to the one below: the square of n to the power of the level less 1."
    private static void furtherLevels() {
        // Two products of all numbers have 6 and 6 and 4 additions, shared 3 and 3 and 1.
        Scene two = new Scene(2).then(x -> x.matrices(2, 2, 2)).then(x -> x.way(0)).products(0, 15, 15, 15, 15, 15, 15);
        two.answers("not shared", 16, x -> x.ofWay(0, 2));
        two.answers("shared", 7, x -> x.ofWay(0, 3));
        long[] multiplications = {1, 2, 4, 8, 16, 32, 64};
        // 16; 32 and 64; 192 and 256; 896 and 1024; 3840 and 4096; 15872 and 16384.
        long[] additions = {0, 16, 96, 448, 1920, 7936, 32256};
        for (int level = 0; level < 7; level++) {
            int told = level;
            two.answers("multiplications in " + told, multiplications[told], x -> x.levels(0, told, false));
            two.answers("additions in " + told, additions[told], x -> x.levels(0, told, true));
        }
    }

    // Terms: "The growth of a way is the greatest, over places of the third side, of the sum, over products that are
    // not 0 there, of how many numbers of their first vector are not 0 times how many of their second."
    private static void growth() {
        way(3, FOUR).answers("no products", 0, x -> x.ofWay(0, 4));
        way(3, FOUR, 80, 80, 0).answers("none at any place", 0, x -> x.ofWay(0, 4));
        way(3, FOUR, 0, 80, 80).answers("no numbers at the first side", 0, x -> x.ofWay(0, 4));
        way(3, FOUR, 80, 0, 80).answers("no numbers at the second side", 0, x -> x.ofWay(0, 4));
        way(3, FOUR, 27, 2, 1).answers("one and one", 1, x -> x.ofWay(0, 4));
        way(3, FOUR, 80, 80, 27).answers("four and four, at the first place", 16, x -> x.ofWay(0, 4));
        way(3, FOUR, 40, 53, 1).answers("four and four, whatever they are", 16, x -> x.ofWay(0, 4));
        way(3, FOUR, 80, 80, 27, 80, 80, 9).answers("at two places", 16, x -> x.ofWay(0, 4));
        way(3, FOUR, 80, 80, 2, 80, 80, 1).answers("at one place", 32, x -> x.ofWay(0, 4));
        way(3, FOUR).times(40, (x, time) -> x.multiply(0, 80, 80, 80)).answers("40 of them", 640, x -> x.ofWay(0, 4));
        way(3, FOUR, 8, 8, 1, 4, 4, 27, 1, 1, 27).answers("the greatest", 5, x -> x.ofWay(0, 4));
        way(3, new int[] {1, 2, 4}, 1, 4, 1).answers("the last of four places", 2, x -> x.ofWay(0, 4));
        way(3, new int[] {2, 4, 1}, 4, 40, 1).answers("a single place", 8, x -> x.ofWay(0, 4));
    }

    // ---- exceptions, constants and the interface

    /** A scene with as much of everything as a call may be refused for, or not. */
    private static Scene rich() {
        return new Scene(3).then(x -> x.matrices(2, 2, 2)).then(x -> x.group(2)).then(x -> x.cube(1, 2, 3))
                .then(x -> x.way(0)).then(x -> x.way(2)).then(x -> x.plain(0)).then(x -> x.multiply(1, 2, 8, 26))
                .then(x -> x.multiply(1, 2, 1, 5)).then(x -> x.multiply(1, 0, 1, 5));
    }

    // Terms: "A call that throws an exception changes nothing."
    private static void refusedCalls() {
        Scene scene = rich();
        int[] numbers = {-1, 0, 2, 3, 41};
        for (int kind = 0; kind < Both.kinds(); kind++) {
            int[] a = new int[Both.argumentsOf(kind)];
            int calls = (int) Math.pow(numbers.length, a.length);
            for (int call = 0; call < calls; call++) {
                int rest = call;
                for (int at = 0; at < a.length; at++) {
                    a[at] = numbers[rest % numbers.length];
                    rest /= numbers.length;
                }
                int[] told = a.clone();
                int number = kind;
                if (Due.answerOf(() -> Both.call(scene.made(), number, told)).endsWith("Exception")) {
                    scene.changesNothing(Both.nameOf(kind) + java.util.Arrays.toString(told),
                            x -> Both.call(x, number, told));
                }
            }
        }
    }

    // Terms: "If several exceptions apply, the one that is named first in the throws clause is thrown."
    private static void firstOfSeveral() {
        Scene scene = rich();
        Scene full = FULL.times(40, (x, time) -> x.multiply(0, 1, 1, 1));
        scene.argument("prime: argument ahead of state", x -> x.prime(4));
        full.argument("cube: argument ahead of state", x -> x.cube(5, 1, 1));
        full.argument("matrices: argument ahead of state", x -> x.matrices(2, 2, 3));
        full.argument("polynomials: argument ahead of state", x -> x.polynomials(4, 4));
        full.argument("group: argument ahead of state", x -> x.group(0));
        scene.index("set: index ahead of argument", x -> x.set(2, 1, 0, 0, 3));
        scene.index("move: index ahead of argument", x -> x.move(2, 0, 1, 1, 0));
        full.index("sum: index ahead of state", x -> x.sum(0, 16));
        new Scene(2).then(x -> x.cube(1, 1, 2)).times(15, (x, time) -> x.cube(1, 1, 1))
                .argument("sum: argument ahead of state", x -> x.sum(0, 1));
        full.index("product: index ahead of state", x -> x.product(-1, 0));
        new Scene(2).times(16, (x, time) -> x.cube(1, 1, 3))
                .argument("product: argument ahead of state", x -> x.product(0, 1));
        full.index("way: index ahead of state", x -> x.way(16));
        full.index("multiply: index ahead of argument", x -> x.multiply(16, 2, 2, 2));
        full.argument("multiply: argument ahead of state", x -> x.multiply(0, 2, 1, 1));
        full.index("flip: index ahead of argument", x -> Scene.flip(x, 0, 40, 40, 0));
        rich().index("flip: index ahead of state", x -> Scene.flip(x, 1, 0, 1, 3));
        full.index("walk: index ahead of argument", x -> x.walk(16, 65536, 0));
        scene.index("least: index ahead of state", x -> x.least(3));
        scene.index("leastAnew: index ahead of state", x -> x.leastAnew(3));
        scene.index("ofWay: index ahead of argument", x -> x.ofWay(2, 5));
        scene.index("result: index ahead of argument", x -> x.result(1, 3, 9, 3));
        scene.index("resultByCube: index ahead of argument", x -> x.resultByCube(1, 3, 9, 3));
        scene.index("levels: index ahead of argument", x -> x.levels(2, 7, true));
        scene.argument("levels: argument ahead of state", x -> x.levels(1, 7, true));
    }

    // Terms: "A method that takes a cube, a way, a product or a side throws IndexOutOfBoundsException if there is no
    // such one; sides are 0 to 2."
    private static void noSuchOne() {
        Scene scene = rich();
        for (int number : new int[] {Integer.MIN_VALUE, -1, 3, 15, 16, Integer.MAX_VALUE}) {
            Scene.Call[] calls = {x -> x.set(number, 0, 0, 0, 0), x -> x.move(number, 0, 0, 1, 1),
                x -> x.sum(number, 0), x -> x.sum(0, number), x -> x.product(number, 0), x -> x.product(0, number),
                x -> x.way(number), x -> x.at(number, 0, 0, 0), x -> x.flattening(number, 0), x -> x.bound(number),
                x -> x.least(number), x -> x.leastAnew(number), x -> x.multiply(number, 0, 0, 0),
                x -> x.plain(number), x -> Scene.flip(x, number, 0, 1, 0), x -> x.reduce(number),
                x -> x.walk(number, 0, 1), x -> x.ofWay(number, 0), x -> x.vector(number, 0, 0),
                x -> x.result(number, 0, 0, 0), x -> x.resultByCube(number, 0, 0, 0),
                x -> x.levels(number, 0, false), x -> Scene.flip(x, 1, number, 0, 0),
                x -> Scene.flip(x, 1, 0, number, 0), x -> x.vector(1, number, 0), x -> x.move(0, number, 0, 1, 1),
                x -> Scene.flip(x, 1, 1, 2, number), x -> x.flattening(0, number), x -> x.vector(1, 0, number)};
            for (Scene.Call call : calls) {
                scene.index("no number " + number, call);
            }
        }
        // Two slices of a product of matrices have 2 numbers each, at unlike places.
        scene.range("the side of move", 0, 2, Scene.INDEX, side -> 10, (x, side) -> x.move(0, side, 0, 1, 1));
        way(3, TWO, 4, 5, 6, 4, 5, 6).range("the side of flip", 0, 2, Scene.INDEX, side -> 0,
                (x, side) -> Scene.flip(x, 0, 0, 1, side));
        scene.range("the side of flattening", 0, 2, Scene.INDEX, side -> 4, (x, side) -> x.flattening(0, side));
        scene.range("the side of vector", 0, 2, Scene.INDEX, side -> side == 0 ? 2 : side == 1 ? 8 : 26,
                (x, side) -> x.vector(1, 0, side));
    }

    // Terms: "The constants: NONE = -1: There is none."
    private static void constants() {
        Due.is("NONE", -1, Bilinearium.NONE);
        Scene scene = rich();
        scene.index("no cube is NONE", x -> x.bound(Bilinearium.NONE));
        scene.index("no way is NONE", x -> x.reduce(Bilinearium.NONE));
        scene.index("no product is NONE", x -> x.vector(1, Bilinearium.NONE, 0));
        scene.index("no side is NONE", x -> x.flattening(0, Bilinearium.NONE));
    }

    /** Small cubes of many sizes, with unlike bounds and leasts. */
    private static Scene small() {
        return new Scene(2).cube(0, new int[] {1, 1, 2}, 0, 1).cube(1, TWO, 1, 0, 0, 1, 0, 1, 1, 1)
                .cube(2, new int[] {2, 2, 3}, 1, 0, 0, 0, 1, 1, 1, 1, 0, 0, 0, 1)
                .cube(3, new int[] {4, 1, 3}, 1, 1, 0, 0, 1, 1, 0, 0, 1, 1, 0, 1)
                .cube(4, FOUR, 1, 0, 0, 0, 0, 1).then(x -> x.way(1)).then(x -> x.plain(0)).then(x -> x.way(4))
                .then(x -> x.plain(1));
    }

    // Terms: "---- what there is; nothing from here on changes anything."
    private static void tellingLeasts() {
        Scene scene = small();
        for (int number = 0; number < 5; number++) {
            int cube = number;
            for (int side = 0; side < 3; side++) {
                int at = side;
                scene.changesNothing("flattening", x -> x.flattening(cube, at));
            }
            scene.changesNothing("bound", x -> x.bound(cube));
            scene.changesNothing("least", x -> x.least(cube));
            scene.changesNothing("leastAnew", x -> x.leastAnew(cube));
            // Whatever is asked ahead of it, a cube has the same least.
            for (int other = 0; other < 4; other++) {
                int told = other;
                long due = scene.made().least(told);
                scene.trying(x -> x.least(cube)).answers("least behind another", due, x -> x.least(told));
            }
        }
        for (int what = 0; what < 5; what++) {
            int told = what;
            scene.changesNothing("ofWay", x -> x.ofWay(0, told));
            scene.changesNothing("ofWay", x -> x.ofWay(1, told));
        }
    }

    // Terms: "---- what there is; nothing from here on changes anything."
    private static void tellingCalls() {
        for (Scene scene : new Scene[] {rich(), FULL, NEW}) {
            Scene.Call[] calls = {x -> x.at(0, 0, 0, 0), x -> x.flattening(0, 2), x -> x.bound(0), x -> x.least(0),
                x -> x.leastAnew(0), x -> x.ofWay(0, 0), x -> x.ofWay(0, 1), x -> x.ofWay(0, 2), x -> x.ofWay(0, 3),
                x -> x.ofWay(0, 4), x -> x.vector(1, 0, 0), x -> x.result(0, 1, 1, 0),
                x -> x.resultByCube(0, 1, 1, 0), x -> x.levels(0, 6, true), x -> x.levels(0, 6, false)};
            for (Scene.Call call : calls) {
                scene.changesNothing("a call that tells", call);
            }
        }
    }

    public static void main(String[] args) {
        calls();
        primes();
        primeAheadOfCubes();
        remainders();
        sixteenCubes();
        sizes();
        places();
        codes();
        matrices();
        polynomials();
        groups();
        moves();
        sums();
        products();
        flattenings();
        bounds();
        sixteenWays();
        waysAsThen();
        holding();
        flips();
        reducingZeros();
        reducingAlike();
        comingDown();
        walking();
        draws();
        drawing();
        walkingToTheEnd();
        least();
        leastTold();
        programs();
        additions();
        sharedSides();
        sharedPairs();
        sharedOrder();
        sharedNumbers();
        levelZero();
        furtherLevels();
        growth();
        refusedCalls();
        firstOfSeveral();
        noSuchOne();
        constants();
        tellingCalls();
        tellingLeasts();
        Due.end();
    }
}
