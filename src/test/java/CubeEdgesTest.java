/**
 * Promises 1 to 10 at their boundaries. Each sentence of theirs is told ahead of the test that holds it;
 * a call that is refused is asked to change nothing, by everything that another object shows.
 */
public final class CubeEdgesTest {
    private static final int[] PRIMES = {2, 3, 5};
    private static final int MIN = Integer.MIN_VALUE;
    private static final int MAX = Integer.MAX_VALUE;
    private static final int[] ONE = {1, 1, 1};
    private static final Scene NEW = new Scene();
    /** 15 cubes leave room for one; 16 are full. Cube 0 has 1 by 1 by 1, cube 1 has 2 by 3 by 1, as cube 2. */
    private static final Scene FIFTEEN = cubes(15);
    private static final Scene FULL = cubes(16);

    private static Scene cubes(int count) {
        return new Scene(2).times(count, (x, time) -> x.cube(time > 0 ? 2 : 1, time > 0 ? 3 : 1, 1));
    }

    /** A call that adds a cube answers 15 behind 15 cubes, is refused behind 16, and if it is wrong, is that first. */
    private static void sixteen(String what, Scene.Call fit) {
        FIFTEEN.answers(what + " behind 15", 15, fit);
        FULL.state(what + " behind 16", fit);
    }

    private static boolean isSize(int size) {
        return size >= 1 && size <= 4;
    }

    // ---- a new object

    // Promise 1: "The prime 2, no cubes and ways."
    private static void newObject() {
        NEW.answers("the prime of a new object", 2, x -> x.prime(3));
        NEW.answers("the first cube", 0, x -> x.cube(1, 1, 1));
        Scene one = new Scene().then(x -> x.cube(1, 1, 1));
        one.answers("by 2 there is 1", 0, x -> x.set(0, 0, 0, 0, 1));
        one.argument("by 2 there is no 2", x -> x.set(0, 0, 0, 0, 2));
        one.answers("the first way", 0, x -> x.way(0));
        one.index("a cube is no way", x -> x.ofWay(0, 0));
    }

    // Promise 1: "The prime 2, no cubes and ways."
    private static void newObjectHasNone() {
        NEW.index("no cube to set", x -> x.set(0, 0, 0, 0, 0));
        NEW.index("no cube to move", x -> x.move(0, 0, 0, 1, 1));
        NEW.index("no cubes to sum", x -> x.sum(0, 0));
        NEW.index("no cubes to multiply", x -> x.product(0, 0));
        NEW.index("no cube for a way", x -> x.way(0));
        NEW.index("no cube to read", x -> x.at(0, 0, 0, 0));
        NEW.index("no cube to flatten", x -> x.flattening(0, 0));
        NEW.index("no cube with a bound", x -> x.bound(0));
        NEW.index("no cube with a least", x -> x.least(0));
        NEW.index("no cube with a least anew", x -> x.leastAnew(0));
        NEW.index("no way for a product", x -> x.multiply(0, 0, 0, 0));
        NEW.index("no way for plain products", x -> x.plain(0));
        NEW.index("no way to flip", x -> Scene.flip(x, 0, 0, 1, 0));
        NEW.index("no way to reduce", x -> x.reduce(0));
        NEW.index("no way to walk", x -> x.walk(0, 0, 1));
        NEW.index("no way to tell of", x -> x.ofWay(0, 0));
        NEW.index("no way with vectors", x -> x.vector(0, 0, 0));
        NEW.index("no way with results", x -> x.result(0, 0, 0, 0));
        NEW.index("no way with results by its cube", x -> x.resultByCube(0, 0, 0, 0));
        NEW.index("no way with levels", x -> x.levels(0, 0, false));
    }

    // ---- prime

    // Promise 2: "Tells the prime."
    private static void primeIsTold() {
        for (int prime : PRIMES) {
            Scene one = new Scene().then(x -> x.prime(prime)).then(x -> x.cube(1, 1, 1));
            one.answers("the last number by " + prime, 0, x -> x.set(0, 0, 0, 0, prime - 1));
            one.argument("no number by " + prime, x -> x.set(0, 0, 0, 0, prime));
        }
    }

    // Promise 2: "prime: 2, 3 or 5"
    private static void primeIsOneOfThree() {
        for (int prime : PRIMES) {
            NEW.answers("the prime " + prime, 2, x -> x.prime(prime));
        }
        for (int other : new int[] {1, 4, 6}) {
            NEW.argument("no prime " + other, x -> x.prime(other));
        }
    }

    // Promise 2: "Returns the one before."
    private static void primeBefore() {
        for (int before : PRIMES) {
            for (int prime : PRIMES) {
                new Scene(before).answers("the one ahead of " + prime, before, x -> x.prime(prime));
                new Scene(5).then(x -> x.prime(before)).answers("the last one told", before, x -> x.prime(prime));
            }
        }
    }

    // Promise 2: "Throws IllegalArgumentException if prime is another one"
    private static void primeIsAnother() {
        for (int other : new int[] {MIN, -5, -3, -2, -1, 0, 1, 4, 6, 7, 8, 9, 10, 11, 13, 15, 25, 30, 65538, MAX}) {
            NEW.argument("no prime " + other, x -> x.prime(other));
            new Scene(3).argument("no prime " + other + " behind 3", x -> x.prime(other));
        }
    }

    // Promise 2: "Throws IllegalStateException if there are cubes"
    private static void primeWithCubes() {
        Scene.Call[] makers = {x -> x.cube(1, 1, 1), x -> x.matrices(1, 1, 1), x -> x.polynomials(1, 1),
            x -> x.group(1)};
        for (Scene.Call maker : makers) {
            for (int prime : PRIMES) {
                new Scene(3).then(maker).state("prime " + prime + " with a cube", x -> x.prime(prime));
            }
        }
        FULL.state("prime with 16 cubes", x -> x.prime(2));
        // One that was refused is none.
        Scene.Call[] refused = {x -> x.cube(0, 1, 1), x -> x.matrices(2, 2, 3), x -> x.polynomials(3, 3),
            x -> x.group(5)};
        for (Scene.Call call : refused) {
            new Scene(3).trying(call).answers("prime behind a cube that was refused", 3, x -> x.prime(5));
        }
    }

    // Terms: "If several exceptions apply, the one that is named first in the throws clause is thrown."
    private static void primeFirstOfTwo() {
        Scene one = new Scene(2).then(x -> x.cube(1, 1, 1));
        for (int other : new int[] {MIN, -1, 0, 1, 4, 6, MAX}) {
            one.argument("no prime " + other + ", and a cube", x -> x.prime(other));
        }
    }

    // ---- cube

    // Promise 3: "Adds a cube of zeros."
    private static void cubeOfZeros() {
        for (int prime : PRIMES) {
            Bilinearium x = new Scene(prime).then(y -> y.cube(4, 4, 4)).then(y -> y.cube(1, 1, 1)).made();
            Due.same("64 zeros", "0".repeat(64), Scene.numbers(x, 0, 4, 4, 4).replaceAll("[, ]", ""));
            Due.same("one zero", "0", Scene.numbers(x, 1, 1, 1, 1));
        }
        // It is one of zeros too, if the one ahead is not.
        new Scene(5).cube(0, ONE, 4).then(x -> x.cube(1, 1, 1)).answers("a zero", 0, x -> x.at(1, 0, 0, 0));
    }

    // Promise 3: "first: 1 to 4"
    private static void cubeFirst() {
        NEW.range("first", 1, 4, Scene.ARGUMENT, n -> 0, (x, n) -> x.cube(n, 2, 3));
        new Scene().then(x -> x.cube(4, 1, 1)).answers("the last i", 0, x -> x.at(0, 3, 0, 0));
        new Scene().then(x -> x.cube(4, 1, 1)).index("no further j", x -> x.at(0, 0, 1, 0));
    }

    // Promise 3: "second: 1 to 4"
    private static void cubeSecond() {
        NEW.range("second", 1, 4, Scene.ARGUMENT, n -> 0, (x, n) -> x.cube(2, n, 3));
        new Scene().then(x -> x.cube(1, 4, 1)).answers("the last j", 0, x -> x.at(0, 0, 3, 0));
        new Scene().then(x -> x.cube(1, 4, 1)).index("no further k", x -> x.at(0, 0, 0, 1));
    }

    // Promise 3: "third: 1 to 4"
    private static void cubeThird() {
        NEW.range("third", 1, 4, Scene.ARGUMENT, n -> 0, (x, n) -> x.cube(2, 3, n));
        new Scene().then(x -> x.cube(1, 1, 4)).answers("the last k", 0, x -> x.at(0, 0, 0, 3));
        new Scene().then(x -> x.cube(1, 1, 4)).index("no further i", x -> x.at(0, 1, 0, 0));
    }

    // Promise 3: "Returns its number."
    private static void cubeNumber() {
        for (int count = 0; count < 16; count++) {
            cubes(count).answers("the number behind " + count, count, x -> x.cube(1, 1, 1));
        }
    }

    // Promise 3: "Throws IllegalArgumentException if a size is out of range"
    private static void cubeSizes() {
        for (int first = -1; first < 7; first++) {
            for (int second = -1; second < 7; second++) {
                for (int third = -1; third < 7; third++) {
                    int a = first;
                    int b = second;
                    int c = third;
                    if (isSize(a) && isSize(b) && isSize(c)) {
                        NEW.answers("a cube " + a + b + c, 0, x -> x.cube(a, b, c));
                    } else {
                        NEW.argument("no cube " + a + "," + b + "," + c, x -> x.cube(a, b, c));
                    }
                }
            }
        }
    }

    // Promise 3: "Throws IllegalStateException if there are 16"
    private static void cubeBehindSixteen() {
        sixteen("a cube", x -> x.cube(4, 4, 4));
        sixteen("a small cube", x -> x.cube(1, 1, 1));
        FULL.argument("a cube of no size, and 16", x -> x.cube(0, 1, 1));
        FULL.argument("a cube of no second size, and 16", x -> x.cube(1, 5, 1));
        FULL.argument("a cube of no third size, and 16", x -> x.cube(1, 1, MAX));
    }

    // ---- matrices

    // Promise 4: "Adds the cube of a product of matrices."
    private static void matricesNumbers() {
        Bilinearium x = new Scene(5).then(y -> y.matrices(1, 1, 1)).then(y -> y.matrices(1, 1, 4))
                .then(y -> y.matrices(1, 4, 1)).then(y -> y.matrices(4, 1, 1)).then(y -> y.matrices(2, 1, 2)).made();
        Due.same("the smallest", "1", Scene.numbers(x, 0, 1, 1, 1));
        Due.same("c of 4", "1000,0100,0010,0001", Scene.numbers(x, 1, 1, 4, 4));
        Due.same("b of 4", "1,0,0,0 0,1,0,0 0,0,1,0 0,0,0,1", Scene.numbers(x, 2, 4, 4, 1));
        Due.same("a of 4", "1000 0100 0010 0001", Scene.numbers(x, 3, 4, 1, 4));
        Due.same("a and c of 2", "1000,0100 0010,0001", Scene.numbers(x, 4, 2, 2, 4));
    }

    // Promise 4: "a: 1 to 4"
    private static void matricesA() {
        NEW.range("a", 1, 4, Scene.ARGUMENT, n -> 0, (x, n) -> x.matrices(n, 1, 1));
    }

    // Promise 4: "b: 1 to 4"
    private static void matricesB() {
        NEW.range("b", 1, 4, Scene.ARGUMENT, n -> 0, (x, n) -> x.matrices(1, n, 1));
    }

    // Promise 4: "c: 1 to 4"
    private static void matricesC() {
        NEW.range("c", 1, 4, Scene.ARGUMENT, n -> 0, (x, n) -> x.matrices(1, 1, n));
    }

    // Promise 4: "Returns its number."
    private static void matricesNumber() {
        for (int count = 0; count < 16; count++) {
            cubes(count).answers("the number behind " + count, count, x -> x.matrices(2, 2, 2));
        }
    }

    // Promise 4: "Throws IllegalArgumentException if one is out of range, or a size would be above 4"
    private static void matricesSizes() {
        for (int first = -2; first < 7; first++) {
            for (int second = -2; second < 7; second++) {
                for (int third = -2; third < 7; third++) {
                    int a = first;
                    int b = second;
                    int c = third;
                    boolean fits = isSize(a) && isSize(b) && isSize(c) && a * b <= 4 && b * c <= 4 && a * c <= 4;
                    if (fits) {
                        NEW.answers("matrices " + a + b + c, 0, x -> x.matrices(a, b, c));
                    } else {
                        NEW.argument("no matrices " + a + "," + b + "," + c, x -> x.matrices(a, b, c));
                    }
                }
            }
        }
        // Products that come round to sizes, as ints do: twice each of these is 2 or 4.
        for (int wrong : new int[] {MIN + 1, MIN + 2}) {
            NEW.argument("a of " + wrong, x -> x.matrices(wrong, 2, 2));
            NEW.argument("b of " + wrong, x -> x.matrices(2, wrong, 2));
            NEW.argument("c of " + wrong, x -> x.matrices(2, 2, wrong));
        }
        NEW.argument("three of -1", x -> x.matrices(-1, -1, -1));
        NEW.argument("three of -2", x -> x.matrices(-2, -2, -2));
        NEW.argument("65536 by 65536", x -> x.matrices(65536, 65536, 1));
        NEW.argument("2 to the 31 and 1, by 1", x -> x.matrices(MIN + 1, 1, 1));
        NEW.argument("1 less than 2 to the 31, twice", x -> x.matrices(1, MAX, MAX));
        NEW.argument("2 to the 30, and 4", x -> x.matrices(1 << 30, 4, 4));
    }

    // Promise 4: "Throws IllegalStateException if there are 16"
    private static void matricesBehindSixteen() {
        sixteen("matrices", x -> x.matrices(2, 2, 2));
        FULL.argument("matrices of 0, and 16", x -> x.matrices(1, 0, 1));
        FULL.argument("too large matrices, and 16", x -> x.matrices(3, 2, 1));
    }

    // ---- polynomials

    // Promise 5: "Adds the cube of polynomials."
    private static void polynomialsNumbers() {
        Bilinearium x = new Scene(3).then(y -> y.polynomials(1, 1)).then(y -> y.polynomials(1, 4))
                .then(y -> y.polynomials(4, 1)).then(y -> y.polynomials(2, 3)).made();
        Due.same("the smallest", "1", Scene.numbers(x, 0, 1, 1, 1));
        Due.same("1 and 4", "1000,0100,0010,0001", Scene.numbers(x, 1, 1, 4, 4));
        Due.same("4 and 1", "1000 0100 0010 0001", Scene.numbers(x, 2, 4, 1, 4));
        Due.same("2 and 3", "1000,0100,0010 0100,0010,0001", Scene.numbers(x, 3, 2, 3, 4));
    }

    // Promise 5: "a: 1 to 4"
    private static void polynomialsA() {
        NEW.range("a", 1, 4, Scene.ARGUMENT, n -> 0, (x, n) -> x.polynomials(n, 1));
    }

    // Promise 5: "b: 1 to 4"
    private static void polynomialsB() {
        NEW.range("b", 1, 4, Scene.ARGUMENT, n -> 0, (x, n) -> x.polynomials(1, n));
    }

    // Promise 5: "Returns its number."
    private static void polynomialsNumber() {
        for (int count = 0; count < 16; count++) {
            cubes(count).answers("the number behind " + count, count, x -> x.polynomials(2, 2));
        }
    }

    // Promise 5: "Throws IllegalArgumentException if one is out of range, or a size would be above 4"
    private static void polynomialsSizes() {
        for (int first = -2; first < 7; first++) {
            for (int second = -2; second < 7; second++) {
                int a = first;
                int b = second;
                if (isSize(a) && isSize(b) && a + b - 1 <= 4) {
                    NEW.answers("polynomials " + a + b, 0, x -> x.polynomials(a, b));
                } else {
                    NEW.argument("no polynomials " + a + "," + b, x -> x.polynomials(a, b));
                }
            }
        }
        NEW.argument("sums that come round", x -> x.polynomials(MAX, MAX));
        NEW.argument("-1 and 3 are 2", x -> x.polynomials(-1, 3));
        NEW.argument("3 and -1 are 2", x -> x.polynomials(3, -1));
        NEW.argument("sums that come round to 2", x -> x.polynomials(MIN, MIN + 3));
    }

    // Promise 5: "Throws IllegalStateException if there are 16"
    private static void polynomialsBehindSixteen() {
        sixteen("polynomials", x -> x.polynomials(2, 3));
        FULL.argument("polynomials of 0, and 16", x -> x.polynomials(0, 1));
        FULL.argument("too large polynomials, and 16", x -> x.polynomials(3, 3));
    }

    // ---- group

    // Promise 6: "Adds the cube of a group."
    private static void groupNumbers() {
        Bilinearium x = new Scene(2).then(y -> y.group(1)).then(y -> y.group(2)).then(y -> y.group(4)).made();
        Due.same("of 1", "1", Scene.numbers(x, 0, 1, 1, 1));
        Due.same("of 2", "10,01 01,10", Scene.numbers(x, 1, 2, 2, 2));
        Due.same("of 4", "1000,0100,0010,0001 0100,0010,0001,1000 0010,0001,1000,0100 0001,1000,0100,0010",
                Scene.numbers(x, 2, 4, 4, 4));
    }

    // Promise 6: "n: 1 to 4"
    private static void groupOfN() {
        NEW.range("n", 1, 4, Scene.ARGUMENT, n -> 0, (x, n) -> x.group(n));
    }

    // Promise 6: "Returns its number."
    private static void groupNumber() {
        for (int count = 0; count < 16; count++) {
            cubes(count).answers("the number behind " + count, count, x -> x.group(4));
        }
    }

    // Promise 6: "Throws IllegalArgumentException if n is out of range"
    private static void groupSizes() {
        for (int wrong : new int[] {MIN, -4, -1, 0, 5, 6, 16, MAX}) {
            NEW.argument("a group of " + wrong, x -> x.group(wrong));
        }
    }

    // Promise 6: "Throws IllegalStateException if there are 16"
    private static void groupBehindSixteen() {
        sixteen("a group", x -> x.group(1));
        FULL.argument("a group of 0, and 16", x -> x.group(0));
        FULL.argument("a group of 5, and 16", x -> x.group(5));
    }

    // ---- set

    /** Cube 0 has 2 by 3 by 4 numbers, cube 1 just one; the last number of both is 1. */
    private static Scene two(int prime) {
        return new Scene(prime).then(x -> x.cube(2, 3, 4)).then(x -> x.cube(1, 1, 1))
                .then(x -> x.set(0, 1, 2, 3, 1)).then(x -> x.set(1, 0, 0, 0, 1));
    }

    // Promise 7: "Sets a number of a cube."
    private static void setOne() {
        for (int prime : PRIMES) {
            int last = prime - 1;
            Bilinearium x = two(prime).then(y -> y.set(0, 0, 0, 0, last)).then(y -> y.set(0, 1, 2, 3, 0)).made();
            Due.same("the first and the last place", last + "000,0000,0000 0000,0000,0000",
                    Scene.numbers(x, 0, 2, 3, 4));
            Due.is("another cube", 1, x.at(1, 0, 0, 0));
        }
    }

    // Promise 7: "Returns what it was."
    private static void setReturns() {
        for (int prime : PRIMES) {
            for (int before = 0; before < prime; before++) {
                int was = before;
                Scene scene = two(prime).then(x -> x.set(0, 1, 0, 2, was));
                for (int number = 0; number < prime; number++) {
                    int told = number;
                    scene.answers("it was", was, x -> x.set(0, 1, 0, 2, told));
                    scene.then(x -> x.set(0, 1, 0, 2, told)).answers("it is", told, x -> x.at(0, 1, 0, 2));
                }
            }
        }
    }

    // Promise 7: "Throws IndexOutOfBoundsException if there is no such cube, or no such place in it"
    private static void setNowhere() {
        Scene scene = two(3);
        scene.range("the cube", 0, 1, Scene.INDEX, cube -> cube, (x, cube) -> x.set(cube, 0, 0, 0, 2));
        scene.range("i", 0, 1, Scene.INDEX, i -> i, (x, i) -> x.set(0, i, 2, 3, 2));
        scene.range("j", 0, 2, Scene.INDEX, j -> j == 2 ? 1 : 0, (x, j) -> x.set(0, 1, j, 3, 2));
        scene.range("k", 0, 3, Scene.INDEX, k -> k == 3 ? 1 : 0, (x, k) -> x.set(0, 1, 2, k, 2));
        scene.range("i of one", 0, 0, Scene.INDEX, i -> 1, (x, i) -> x.set(1, i, 0, 0, 2));
        scene.range("j of one", 0, 0, Scene.INDEX, j -> 1, (x, j) -> x.set(1, 0, j, 0, 2));
        scene.range("k of one", 0, 0, Scene.INDEX, k -> 1, (x, k) -> x.set(1, 0, 0, k, 2));
        FULL.range("one of 16", 0, 15, Scene.INDEX, cube -> 0, (x, cube) -> x.set(cube, 0, 0, 0, 1));
        scene.index("no place, and no number", x -> x.set(0, 2, 0, 0, 3));
        scene.index("no j, and no number", x -> x.set(0, 0, 3, 0, -1));
        scene.index("no k, and no number", x -> x.set(0, 0, 0, -1, MAX));
        scene.index("no cube, and no number", x -> x.set(2, 0, 0, 0, 3));
    }

    // Promise 7: "Throws IllegalArgumentException if number is no remainder by the prime"
    private static void setNoRemainder() {
        for (int prime : PRIMES) {
            two(prime).range("the number", 0, prime - 1, Scene.ARGUMENT, n -> 1, (x, n) -> x.set(0, 1, 2, 3, n));
        }
    }

    // ---- move

    // Promise 8: "Moves a cube."
    private static void moveAdds() {
        Scene scene = new Scene(3).cube(0, new int[] {2, 2, 2}, 1, 2, 0, 1, 2, 2, 1, 0);
        Due.same("ahead of it", "12,01 22,10", Scene.numbers(scene.made(), 0, 2, 2, 2));
        Due.same("of side 0", "12,01 01,11", numbersBehind(scene, x -> x.move(0, 0, 0, 1, 1)));
        Due.same("of side 1", "12,10 22,02", numbersBehind(scene, x -> x.move(0, 1, 0, 1, 1)));
        Due.same("of side 2, twice", "11,01 20,12", numbersBehind(scene, x -> x.move(0, 2, 0, 1, 2)));
        Due.same("the other way round", "01,11 22,10", numbersBehind(scene, x -> x.move(0, 0, 1, 0, 1)));
    }

    private static String numbersBehind(Scene scene, Scene.Call call) {
        return Scene.numbers(scene.then(call).made(), 0, 2, 2, 2);
    }

    /** A cube of 2 by 3 by 4 numbers by 5, all 1: a move of side 0, 1 or 2 touches 12, 8 or 6 of them. */
    private static Scene ones() {
        int[] numbers = new int[24];
        java.util.Arrays.fill(numbers, 1);
        return new Scene(5).cube(0, new int[] {2, 3, 4}, numbers);
    }

    // Promise 8: "from: a slice of the side"
    private static void moveFrom() {
        Scene scene = ones();
        scene.range("from of side 0", 0, 1, Scene.INDEX, n -> 24, (x, n) -> x.move(0, 0, n, n == 0 ? 1 : 0, 1));
        scene.range("from of side 1", 0, 2, Scene.INDEX, n -> 24, (x, n) -> x.move(0, 1, n, n == 0 ? 1 : 0, 1));
        scene.range("from of side 2", 0, 3, Scene.INDEX, n -> 24, (x, n) -> x.move(0, 2, n, n == 0 ? 1 : 0, 1));
        scene.answers("from 0 of side 2", 24, x -> x.move(0, 2, 0, 3, 1));
        scene.index("from 4 of side 2", x -> x.move(0, 2, 4, 3, 1));
    }

    // Promise 8: "to: another one"
    private static void moveTo() {
        Scene scene = ones();
        scene.range("to of side 0", 0, 1, Scene.INDEX, n -> 24, (x, n) -> x.move(0, 0, n == 0 ? 1 : 0, n, 1));
        scene.range("to of side 1", 0, 2, Scene.INDEX, n -> 24, (x, n) -> x.move(0, 1, n == 0 ? 1 : 0, n, 1));
        scene.range("to of side 2", 0, 3, Scene.INDEX, n -> 24, (x, n) -> x.move(0, 2, n == 0 ? 1 : 0, n, 1));
        for (int slice = 0; slice < 4; slice++) {
            int same = slice;
            scene.argument("to itself, of side 2", x -> x.move(0, 2, same, same, 1));
        }
        // A side of a single slice has no other one.
        Scene single = new Scene(5).cube(0, ONE, 1);
        for (int side = 0; side < 3; side++) {
            int at = side;
            single.argument("a single slice of side " + at, x -> x.move(0, at, 0, 0, 1));
            single.index("no other slice of side " + at, x -> x.move(0, at, 0, 1, 1));
        }
    }

    // Promise 8: "times: 1 to less than the prime"
    private static void moveTimes() {
        for (int prime : PRIMES) {
            // 1 and times come round to 0 for the last times, and then 2 of the 4 numbers are 0.
            Scene scene = new Scene(prime).cube(0, new int[] {1, 2, 2}, 1, 1, 1, 1);
            scene.range("times by " + prime, 1, prime - 1, Scene.ARGUMENT, n -> n == prime - 1 ? 2 : 4,
                    (x, n) -> x.move(0, 1, 0, 1, n));
        }
    }

    // Promise 8: "Returns how many numbers of the cube are not 0 then."
    private static void moveCounts() {
        new Scene(2).then(x -> x.cube(4, 4, 4)).answers("none", 0, x -> x.move(0, 0, 0, 3, 1));
        new Scene(2).then(x -> x.cube(2, 1, 1)).then(x -> x.set(0, 1, 0, 0, 1))
                .answers("one, of a slice of zeros", 1, x -> x.move(0, 0, 0, 1, 1));
        new Scene(2).then(x -> x.cube(2, 1, 1)).then(x -> x.set(0, 1, 0, 0, 1))
                .answers("two", 2, x -> x.move(0, 0, 1, 0, 1));
        int[] numbers = new int[64];
        java.util.Arrays.fill(numbers, 1);
        Scene all = new Scene(3).cube(0, new int[] {4, 4, 4}, numbers);
        all.answers("all of them", 64, x -> x.move(0, 2, 3, 0, 1));
        all.answers("all but a slice", 48, x -> x.move(0, 2, 3, 0, 2));
        // Two cubes are counted apart.
        all.then(x -> x.cube(1, 1, 2)).answers("those of one cube", 0, x -> x.move(1, 2, 0, 1, 1));
    }

    // Promise 8: "Throws IndexOutOfBoundsException if there is no such cube, side or slice, of both"
    private static void moveNowhere() {
        Scene scene = ones().then(x -> x.cube(1, 2, 1));
        scene.range("the cube", 0, 1, Scene.INDEX, cube -> cube == 0 ? 24 : 0, (x, cube) -> x.move(cube, 1, 0, 1, 1));
        scene.range("the side", 0, 2, Scene.INDEX, side -> 24, (x, side) -> x.move(0, side, 0, 1, 1));
        scene.index("neither slice", x -> x.move(0, 0, 2, 3, 1));
        scene.index("no slice, twice the same", x -> x.move(0, 0, 2, 2, 1));
        scene.index("no slice -1, twice the same", x -> x.move(0, 0, -1, -1, 1));
        scene.index("no cube, the same slice", x -> x.move(2, 0, 0, 0, 1));
        scene.index("no cube, no times", x -> x.move(-1, 0, 0, 1, 0));
        scene.index("no side, the same slice", x -> x.move(0, 3, 0, 0, 1));
        scene.index("no side, no times", x -> x.move(0, -1, 0, 1, 5));
        scene.index("no slice to take, no times", x -> x.move(0, 0, 2, 1, 0));
        scene.index("no slice to add to, no times", x -> x.move(0, 0, 1, 2, 5));
        scene.index("the slice 2 is of side 1, not of side 0", x -> x.move(0, 0, 2, 0, 1));
        scene.index("the slice 3 is of side 2, not of side 1", x -> x.move(0, 1, 3, 0, 1));
    }

    // Promise 8: "Throws IllegalArgumentException if from and to are the same, or times is out of range"
    private static void moveSame() {
        Scene scene = ones();
        scene.argument("the same", x -> x.move(0, 0, 1, 1, 1));
        scene.argument("times 0", x -> x.move(0, 0, 1, 0, 0));
        scene.argument("times 5 by 5", x -> x.move(0, 0, 1, 0, 5));
        scene.argument("times 6 by 5, 1 as a remainder", x -> x.move(0, 0, 1, 0, 6));
        scene.argument("times -4 by 5, 1 as a remainder", x -> x.move(0, 0, 1, 0, -4));
        scene.argument("both", x -> x.move(0, 0, 1, 1, 0));
    }

    // ---- sum

    // Promise 9: "Adds the sum of two cubes."
    private static void sumNumbers() {
        for (int prime : PRIMES) {
            Scene scene = new Scene(prime).then(x -> x.cube(1, 1, 1)).then(x -> x.cube(1, 1, 1));
            for (int left = 0; left < prime; left++) {
                for (int right = 0; right < prime; right++) {
                    int a = left;
                    int b = right;
                    scene.then(x -> x.set(0, 0, 0, 0, a)).then(x -> x.set(1, 0, 0, 0, b))
                            .then(x -> x.sum(0, 1)).answers(a + " and " + b + " by " + prime,
                                    a + b < prime ? a + b : a + b - prime, x -> x.at(2, 0, 0, 0));
                }
            }
        }
    }

    // Promise 9: "Returns its number."
    private static void sumNumber() {
        for (int count = 1; count < 16; count++) {
            cubes(count).answers("the number behind " + count, count, x -> x.sum(0, 0));
        }
    }

    // Promise 9: "Throws IndexOutOfBoundsException if there is no such cube, of both"
    private static void sumOfNone() {
        Scene three = new Scene(2).times(3, (x, time) -> x.cube(1, 2, 1));
        three.range("the first", 0, 2, Scene.INDEX, n -> 3, (x, n) -> x.sum(n, 1));
        three.range("the second", 0, 2, Scene.INDEX, n -> 3, (x, n) -> x.sum(1, n));
        three.index("neither", x -> x.sum(3, 3));
        three.index("no second one, of no such sizes", x -> x.sum(0, 3));
        FULL.index("no first one, and 16", x -> x.sum(16, 0));
        FULL.index("no second one, and 16", x -> x.sum(0, -1));
    }

    // Promise 9: "Throws IllegalArgumentException if their sizes are unlike"
    private static void sumOfUnlike() {
        int[][] unlike = {{1, 3, 3}, {3, 3, 3}, {2, 2, 3}, {2, 4, 3}, {2, 3, 2}, {2, 3, 4}, {3, 2, 3}, {3, 3, 2},
            {2, 1, 1}, {4, 4, 4}, {3, 4, 2}};
        for (int[] sizes : unlike) {
            Scene scene = new Scene(2).then(x -> x.cube(2, 3, 3)).then(x -> x.cube(sizes[0], sizes[1], sizes[2]));
            scene.argument("unlike ones", x -> x.sum(0, 1));
            scene.argument("unlike ones, turned round", x -> x.sum(1, 0));
            scene.answers("one with itself", 2, x -> x.sum(1, 1));
        }
        FULL.argument("unlike ones, and 16", x -> x.sum(0, 1));
    }

    // Promise 9: "Throws IllegalStateException if there are 16"
    private static void sumBehindSixteen() {
        sixteen("a sum", x -> x.sum(1, 2));
        sixteen("a sum with itself", x -> x.sum(0, 0));
    }

    // ---- product

    // Promise 10: "Adds the product of two cubes."
    private static void productNumbers() {
        for (int prime : PRIMES) {
            Scene scene = new Scene(prime).then(x -> x.cube(1, 1, 1)).then(x -> x.cube(1, 1, 1));
            for (int left = 0; left < prime; left++) {
                for (int right = 0; right < prime; right++) {
                    int a = left;
                    int b = right;
                    scene.then(x -> x.set(0, 0, 0, 0, a)).then(x -> x.set(1, 0, 0, 0, b))
                            .then(x -> x.product(0, 1)).answers(a + " times " + b + " by " + prime,
                                    a * b - a * b / prime * prime, x -> x.at(2, 0, 0, 0));
                }
            }
        }
        Bilinearium x = new Scene(5).cube(0, new int[] {1, 2, 2}, 1, 0, 0, 2).then(y -> y.cube(2, 2, 1))
                .then(y -> y.set(1, 0, 0, 0, 3)).then(y -> y.set(1, 1, 1, 0, 4)).then(y -> y.product(0, 1)).made();
        Due.same("the first and the last place", "30,00,01,00 00,40,00,03", Scene.numbers(x, 2, 2, 4, 2));
    }

    // Promise 10: "Returns its number."
    private static void productNumber() {
        for (int count = 1; count < 16; count++) {
            cubes(count).answers("the number behind " + count, count, x -> x.product(0, 0));
        }
    }

    // Promise 10: "Throws IndexOutOfBoundsException if there is no such cube, of both"
    private static void productOfNone() {
        Scene three = new Scene(2).times(3, (x, time) -> x.cube(1, 2, 1));
        three.range("the first", 0, 2, Scene.INDEX, n -> 3, (x, n) -> x.product(n, 1));
        three.range("the second", 0, 2, Scene.INDEX, n -> 3, (x, n) -> x.product(1, n));
        three.index("neither", x -> x.product(3, -1));
        FULL.index("no first one, and 16", x -> x.product(16, 0));
        FULL.index("no second one, and 16", x -> x.product(0, 16));
    }

    // Promise 10: "Throws IllegalArgumentException if a size would be above 4"
    private static void productSizes() {
        for (int left = 1; left < 5; left++) {
            for (int right = 1; right < 5; right++) {
                int a = left;
                int b = right;
                productOfSizes(a * b <= 4, new int[] {a, 1, 1}, new int[] {b, 1, 1});
                productOfSizes(a * b <= 4, new int[] {1, a, 1}, new int[] {1, b, 1});
                productOfSizes(a * b <= 4, new int[] {1, 1, a}, new int[] {1, 1, b});
                productOfSizes(true, new int[] {a, 1, 1}, new int[] {1, b, 1});
                productOfSizes(true, new int[] {1, a, 1}, new int[] {1, 1, b});
            }
        }
        productOfSizes(true, new int[] {2, 2, 2}, new int[] {2, 2, 2});
        productOfSizes(false, new int[] {4, 4, 4}, new int[] {4, 4, 4});
        Scene full = new Scene(2).times(16, (x, time) -> x.cube(3, 1, 1));
        full.argument("a size of 9, and 16", x -> x.product(0, 1));
    }

    private static void productOfSizes(boolean fits, int[] left, int[] right) {
        Scene scene = new Scene(2).then(x -> x.cube(left[0], left[1], left[2]))
                .then(x -> x.cube(right[0], right[1], right[2]));
        if (!fits) {
            scene.argument("a product that is too large", x -> x.product(0, 1));
            return;
        }
        scene.answers("a product", 2, x -> x.product(0, 1));
        Scene made = scene.then(x -> x.product(0, 1));
        made.answers("its last place", 0,
                x -> x.at(2, left[0] * right[0] - 1, left[1] * right[1] - 1, left[2] * right[2] - 1));
        made.index("no further i", x -> x.at(2, left[0] * right[0], 0, 0));
        made.index("no further j", x -> x.at(2, 0, left[1] * right[1], 0));
        made.index("no further k", x -> x.at(2, 0, 0, left[2] * right[2]));
    }

    // Promise 10: "Throws IllegalStateException if there are 16"
    private static void productBehindSixteen() {
        sixteen("a product", x -> x.product(0, 1));
        sixteen("a product, turned round", x -> x.product(1, 0));
    }

    public static void main(String[] args) {
        newObject();
        newObjectHasNone();
        primeIsTold();
        primeIsOneOfThree();
        primeBefore();
        primeIsAnother();
        primeWithCubes();
        primeFirstOfTwo();
        cubeOfZeros();
        cubeFirst();
        cubeSecond();
        cubeThird();
        cubeNumber();
        cubeSizes();
        cubeBehindSixteen();
        matricesNumbers();
        matricesA();
        matricesB();
        matricesC();
        matricesNumber();
        matricesSizes();
        matricesBehindSixteen();
        polynomialsNumbers();
        polynomialsA();
        polynomialsB();
        polynomialsNumber();
        polynomialsSizes();
        polynomialsBehindSixteen();
        groupNumbers();
        groupOfN();
        groupNumber();
        groupSizes();
        groupBehindSixteen();
        setOne();
        setReturns();
        setNowhere();
        setNoRemainder();
        moveAdds();
        moveFrom();
        moveTo();
        moveTimes();
        moveCounts();
        moveNowhere();
        moveSame();
        sumNumbers();
        sumNumber();
        sumOfNone();
        sumOfUnlike();
        sumBehindSixteen();
        productNumbers();
        productNumber();
        productOfNone();
        productSizes();
        productBehindSixteen();
        Due.end();
    }
}
