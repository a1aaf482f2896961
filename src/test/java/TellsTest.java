/** Promises 17 to 26: what there is, which changes nothing. */
public final class TellsTest {
    /** The seven products of Strassen, by 2. */
    private static final int[] SEVEN = {9, 9, 9, 3, 8, 3, 8, 5, 5, 1, 10, 10, 12, 1, 12, 10, 12, 1, 5, 3, 8};

    private static void append(Bilinearium x, int way, int... codes) {
        for (int at = 0; at + 2 < codes.length; at += 3) {
            x.multiply(way, codes[at], codes[at + 1], codes[at + 2]);
        }
    }

    private static Bilinearium seven() {
        Bilinearium x = new Bilinearium();
        x.matrices(2, 2, 2);
        x.way(0);
        append(x, 0, SEVEN);
        return x;
    }

    /** An object with one cube, of these numbers. */
    private static Bilinearium withCube(int prime, int first, int second, int third, int... numbers) {
        Bilinearium x = new Bilinearium();
        x.prime(prime);
        x.cube(first, second, third);
        for (int at = 0; at < numbers.length; at++) {
            x.set(0, at / third / second, at / third % second, at % third, numbers[at]);
        }
        return x;
    }

    private static void promise17() {
        Bilinearium x = withCube(3, 2, 1, 2, 1, 2, 0, 1);
        Due.is("0,0,0", 1, x.at(0, 0, 0, 0));
        Due.is("0,0,1", 2, x.at(0, 0, 0, 1));
        Due.is("1,0,0", 0, x.at(0, 1, 0, 0));
        Due.is("1,0,1", 1, x.at(0, 1, 0, 1));
        for (int wrong : new int[] {-1, 2, Integer.MIN_VALUE, Integer.MAX_VALUE}) {
            Due.index("cube " + wrong, () -> x.at(wrong, 0, 0, 0));
            Due.index("i " + wrong, () -> x.at(0, wrong, 0, 0));
            Due.index("j " + wrong, () -> x.at(0, 0, wrong, 0));
            Due.index("k " + wrong, () -> x.at(0, 0, 0, wrong));
        }
        Due.index("j 1", () -> x.at(0, 0, 1, 0));
        Due.index("cube 1", () -> x.at(1, 0, 0, 0));
    }

    private static void promise18() {
        Bilinearium zeros = withCube(5, 3, 3, 3);
        Due.is("zeros", 0, zeros.flattening(0, 1));
        // Slices of i: 1,2,3,4 and twice that and one apart; by 5 the rank is 2.
        Bilinearium x = withCube(5, 3, 2, 2, 1, 2, 3, 4, 2, 4, 1, 3, 0, 0, 0, 1);
        Due.is("side 0 by 5", 2, x.flattening(0, 0));
        Due.is("side 1 by 5", 2, x.flattening(0, 1));
        Due.is("side 2 by 5", 2, x.flattening(0, 2));
        Bilinearium y = withCube(2, 2, 2, 2, 1, 1, 1, 1, 0, 0, 1, 1);
        Due.is("side 0 by 2", 2, y.flattening(0, 0));
        Due.is("side 1 by 2", 2, y.flattening(0, 1));
        Due.is("side 2 by 2", 1, y.flattening(0, 2));
        // 1,2 and 2,1 are alone by 2 and 5, but 2,1 is twice 1,2 by 3.
        Due.is("by 3", 1, withCube(3, 2, 1, 2, 1, 2, 2, 1).flattening(0, 0));
        Due.is("by 5", 2, withCube(5, 2, 1, 2, 1, 2, 2, 1).flattening(0, 0));
        Due.is("by 5, leading by 3", 1, withCube(5, 2, 1, 2, 3, 4, 4, 2).flattening(0, 0));
        Due.is("rows that change places", 3, withCube(2, 3, 1, 3, 0, 0, 1, 1, 0, 0, 0, 1, 0).flattening(0, 0));
        Bilinearium wide = new Bilinearium();
        wide.matrices(1, 4, 1);
        wide.cube(1, 1, 1);
        Due.is("four slices", 4, wide.flattening(0, 1));
        Due.is("of a single number each", 1, wide.flattening(0, 2));
        Due.is("a smaller cube behind a larger one", 0, wide.flattening(1, 0));
        Due.index("side 3", () -> x.flattening(0, 3));
        Due.index("side -1", () -> x.flattening(0, -1));
        Due.index("cube 1", () -> x.flattening(1, 0));
        Due.index("cube -1", () -> x.flattening(-1, 0));
    }

    private static void promise19() {
        Bilinearium x = new Bilinearium();
        Due.index("cube 0", () -> x.bound(0));
        x.matrices(1, 2, 2);
        Due.is("side 1 is the greatest", 4, x.bound(0));
        x.matrices(2, 2, 1);
        Due.is("side 0 is the greatest", 4, x.bound(1));
        x.matrices(2, 1, 2);
        Due.is("side 2 is the greatest", 4, x.bound(2));
        x.cube(4, 4, 4);
        Due.is("zeros", 0, x.bound(3));
        x.set(3, 2, 2, 2, 1);
        Due.is("one number", 1, x.bound(3));
        Due.index("cube 4", () -> x.bound(4));
        Due.index("cube -1", () -> x.bound(-1));
    }

    private static void promise20() {
        Due.is("zeros", 0, withCube(2, 2, 2, 3).least(0));
        Due.is("one product", 1, withCube(2, 2, 2, 3, 0, 0, 0, 1, 0, 1, 0, 0, 0, 1, 0, 1).least(0));
        Due.is("two products", 2, withCube(2, 2, 2, 3, 1, 0, 0, 0, 0, 0, 0, 0, 0, 0, 1, 1).least(0));
        Due.is("a field of four: above its bound of 2", 3,
                withCube(2, 2, 2, 2, 1, 0, 0, 1, 0, 1, 1, 1).least(0));
        Due.is("a diagonal of three", 3, withCube(2, 1, 3, 4, 1, 0, 0, 0, 0, 1, 0, 0, 0, 0, 1, 0).least(0));
        Due.is("12 numbers, otherwise", 3, withCube(2, 3, 4, 1, 1, 0, 0, 0, 0, 1, 0, 0, 1, 1, 1, 0).least(0));
        Bilinearium x = new Bilinearium();
        x.polynomials(2, 2);
        x.group(2);
        x.cube(3, 2, 2);
        x.cube(2, 4, 2);
        x.cube(4, 4, 1);
        Due.is("polynomials of 2 and 2", 3, x.least(0));
        Due.is("a group of 2", 3, x.least(1));
        Due.is("12 numbers", 0, x.least(2));
        Due.state("16 numbers", () -> x.least(3));
        Due.state("16 numbers, otherwise", () -> x.least(4));
        Due.index("cube 5", () -> x.least(5));
        Due.index("cube -1", () -> x.least(-1));
        Due.state("by 3", () -> withCube(3, 1, 1, 1).least(0));
        Due.state("by 5", () -> withCube(5, 2, 2, 2).least(0));
        Due.index("by 3 and no cube", () -> withCube(3, 1, 1, 1).least(1));
        allCubes(2, 2, 2, true);
        allCubes(1, 3, 4, false);
        allCubes(4, 1, 3, false);
        allCubes(2, 2, 3, false);
        allCubes(3, 2, 2, false);
        allCubes(2, 3, 2, false);
    }

    private static void promise21() {
        Due.is("zeros", 0, withCube(2, 2, 2, 2).leastAnew(0));
        Due.is("a field of four", 3, withCube(2, 2, 2, 2, 1, 0, 0, 1, 0, 1, 1, 1).leastAnew(0));
        Due.is("a diagonal of two", 2, withCube(2, 1, 2, 4, 1, 0, 0, 0, 0, 1, 0, 0).leastAnew(0));
        Bilinearium x = new Bilinearium();
        x.group(2);
        x.cube(1, 3, 3);
        x.cube(3, 1, 2);
        Due.is("a group of 2", 3, x.leastAnew(0));
        Due.state("9 numbers", () -> x.leastAnew(1));
        Due.is("6 numbers", 0, x.leastAnew(2));
        Due.is("9 numbers with a bound", 0, x.least(1));
        Due.index("cube 3", () -> x.leastAnew(3));
        Due.index("cube -1", () -> x.leastAnew(-1));
        Due.state("by 3", () -> withCube(3, 1, 1, 1).leastAnew(0));
        Due.state("by 5", () -> withCube(5, 1, 1, 1).leastAnew(0));
        allCubes(1, 2, 4, true);
        allCubes(4, 2, 1, true);
        allCubes(2, 1, 3, true);
        allCubes(1, 1, 1, true);
    }

    /** Every cube of these sizes, against the model. */
    private static void allCubes(int first, int second, int third, boolean anew) {
        int numbers = first * second * third;
        Bilinearium x = null;
        Model model = null;
        for (int bits = 0; bits < 1 << numbers; bits++) {
            if (bits % 16 == 0) {
                x = new Bilinearium();
                model = model == null ? new Model() : model;
                x.cube(first, second, third);
                if (model.cubeCount() == 0) {
                    model.cube(first, second, third);
                }
            }
            for (int at = 0; at < numbers; at++) {
                int number = bits >> at & 1;
                x.set(0, at / third / second, at / third % second, at % third, number);
                model.set(0, at / third / second, at / third % second, at % third, number);
            }
            Due.is("the least of cube " + bits, model.least(0), x.least(0));
            if (anew) {
                Due.is("the least anew of cube " + bits, model.leastAnew(0), x.leastAnew(0));
            }
        }
    }

    private static void promise22() {
        Bilinearium x = seven();
        int[] due = {7, 0, 18, 18, 12};
        for (int what = 0; what < 5; what++) {
            Due.is("seven products: " + what, due[what], x.ofWay(0, what));
        }
        x.way(0);
        int[] none = {0, 8, 0, 0, 0};
        for (int what = 0; what < 5; what++) {
            Due.is("no products: " + what, none[what], x.ofWay(1, what));
        }
        Due.index("way 2", () -> x.ofWay(2, 0));
        Due.index("way -1 and what 5", () -> x.ofWay(-1, 5));
        Due.argument("what 5", () -> x.ofWay(0, 5));
        Due.argument("what -1", () -> x.ofWay(0, -1));
        Due.argument("the least int", () -> x.ofWay(0, Integer.MIN_VALUE));
        wrongPlaces();
        sharing();
        mostFirst();
        growth();
    }

    private static void wrongPlaces() {
        Bilinearium x = withCube(5, 2, 1, 2, 1, 2, 3, 4);
        x.way(0);
        Due.is("four places to go", 4, x.ofWay(0, 1));
        // 1,3 times 1,2 is 1,2,3,1: just the last one is wrong.
        x.multiply(0, 8, 1, 7);
        Due.is("the last place", 1, x.ofWay(0, 1));
        x.multiply(0, 1, 1, 3);
        Due.is("no place", 0, x.ofWay(0, 1));
        x.multiply(0, 5, 2, 5);
        Due.is("the first place", 1, x.ofWay(0, 1));
        x.multiply(0, 5, 3, 5);
        Due.is("5 are 0", 0, x.ofWay(0, 1));
    }

    private static void sharing() {
        Bilinearium x = withCube(2, 4, 2, 4);
        x.way(0);
        append(x, 0, 14, 1, 8, 14, 2, 4);
        Due.is("two sums of three", 4, x.ofWay(0, 2));
        Due.is("shared: both pairs are made once", 2, x.ofWay(0, 3));
        append(x, 0, 7, 3, 2);
        Due.is("and 1,2,3, and both of side 1", 7, x.ofWay(0, 2));
        // 1 and 2 are in three sums: once made, it leaves 0 to two of them, and 3 to one.
        Due.is("the pair that is in the most goes first", 4, x.ofWay(0, 3));
        Bilinearium y = withCube(2, 1, 1, 4);
        y.way(0);
        append(y, 0, 1, 1, 15, 1, 1, 15, 1, 1, 15);
        Due.is("four places with three products", 8, y.ofWay(0, 2));
        Due.is("side 2 is shared by products", 2, y.ofWay(0, 3));
        // Pairs 0,1 and 0,3 and 2,3 are in two sums each; were 0,3 first, neither of the others would be.
        Bilinearium z = withCube(3, 4, 1, 1);
        z.way(0);
        append(z, 0, 72, 1, 1, 40, 1, 1, 7, 1, 1, 55, 1, 1);
        Due.is("by 3, whatever the numbers", 9, z.ofWay(0, 2));
        Due.is("the lower pair goes first", 7, z.ofWay(0, 3));
    }

    /** Ways where another pair ahead would need another number of additions. */
    private static void mostFirst() {
        Due.is("the pair in three, not the last", 3, sharedFirst(15, 5, 15));
        Due.is("the pair in three, not the first", 3, sharedFirst(15, 10, 15));
        Due.is("the lower pair, not the last of several", 6, sharedFirst(13, 14, 10, 7));
        Due.is("the lower second one", 4, sharedFirst(12, 3, 11, 13));
        Due.is("of side 2: not the last", 2, sharedThird(15, 6, 7));
        Due.is("of side 2: not the first", 2, sharedThird(15, 9, 13));
        Due.is("of side 2: the lower pair", 5, sharedThird(10, 7, 13, 14));
        Due.is("of side 2: the lower first one ahead of the lower second", 11,
                sharedThird(11, 10, 13, 13, 15, 14, 7));
        Due.is("of side 2: the lower second one", 4, sharedThird(13, 12, 11, 10));
    }

    private static int sharedFirst(int... codes) {
        Bilinearium x = withCube(2, 4, 1, 1);
        x.way(0);
        for (int code : codes) {
            x.multiply(0, code, 1, 0);
        }
        return x.ofWay(0, 3);
    }

    private static int sharedThird(int... codes) {
        Bilinearium x = withCube(2, 1, 1, 4);
        x.way(0);
        for (int code : codes) {
            x.multiply(0, 1, 1, code);
        }
        return x.ofWay(0, 3);
    }

    private static void growth() {
        Bilinearium x = withCube(3, 4, 4, 2);
        x.way(0);
        append(x, 0, 80, 13, 1, 0, 80, 1, 27, 1, 6, 40, 30, 8);
        // Place 0 has 1 times 1 and 4 times 2; place 1 has 4 times 3, 0 times 4 and 4 times 2.
        Due.is("the greatest of two places", 20, x.ofWay(0, 4));
        append(x, 0, 80, 80, 3);
        Due.is("the other place", 25, x.ofWay(0, 4));
        Bilinearium y = withCube(2, 1, 2, 4);
        y.way(0);
        append(y, 0, 1, 3, 1);
        Due.is("the last place", 2, y.ofWay(0, 4));
    }

    private static void promise23() {
        Bilinearium x = withCube(5, 1, 2, 3);
        x.way(0);
        append(x, 0, 4, 24, 124, 3, 7, 38);
        Due.is("first vector", 4, x.vector(0, 0, 0));
        Due.is("second vector", 24, x.vector(0, 0, 1));
        Due.is("third vector", 124, x.vector(0, 0, 2));
        Due.is("first vector of the second", 3, x.vector(0, 1, 0));
        Due.is("second vector of the second", 7, x.vector(0, 1, 1));
        Due.is("third vector of the second", 38, x.vector(0, 1, 2));
        for (int wrong : new int[] {-1, 3, Integer.MIN_VALUE, Integer.MAX_VALUE}) {
            Due.index("way " + wrong, () -> x.vector(wrong, 0, 0));
            Due.index("product " + wrong, () -> x.vector(0, wrong, 0));
            Due.index("side " + wrong, () -> x.vector(0, 0, wrong));
        }
        Due.index("way 1", () -> x.vector(1, 0, 0));
        Due.index("product 2", () -> x.vector(0, 2, 0));
        x.way(0);
        Due.index("a way without products", () -> x.vector(1, 0, 0));
    }

    private static void promise24() {
        Bilinearium x = seven();
        Due.is("11 and 6", 1, x.result(0, 11, 6, 2));
        for (int a = 0; a < 16; a++) {
            for (int b = 0; b < 16; b++) {
                for (int place = 0; place < 4; place++) {
                    Due.is("a matrix product " + a + "," + b + "," + place, entry(a, b, place),
                            x.result(0, a, b, place));
                }
            }
        }
        Bilinearium y = withCube(5, 2, 2, 2);
        y.way(0);
        append(y, 0, 7, 11, 14, 13, 24, 5);
        // 1,2 by 3,4 is 11, 2,1 by 2,2 is 6, times 2 at place 0; 2,3 by 3,4 is 18, 4,4 by 2,2 is 16, times 1.
        Due.is("by 5", (2 * 11 * 6 + 18 * 16) % 5, y.result(0, 19, 12, 0));
        Due.is("at place 1", 4 * 11 * 6 % 5, y.result(0, 19, 12, 1));
        Due.is("the way, not the cube", 0, y.resultByCube(0, 19, 12, 0));
        Due.index("way 1", () -> y.result(1, 0, 0, 0));
        Due.index("place 2", () -> y.result(0, 0, 0, 2));
        Due.index("place -1", () -> y.result(0, 0, 0, -1));
        Due.index("place 2 and no codes", () -> y.result(0, 25, -1, 2));
        Due.argument("x 25", () -> y.result(0, 25, 0, 0));
        Due.argument("x -1", () -> y.result(0, -1, 0, 0));
        Due.argument("y 25", () -> y.result(0, 0, 25, 0));
        Due.argument("y -1", () -> y.result(0, 0, -1, 0));
        sizesOfFactors();
    }

    private static int entry(int a, int b, int place) {
        int row = place / 2;
        int column = place % 2;
        int total = 0;
        for (int between = 0; between < 2; between++) {
            total += (a >> 3 - 2 * row - between & 1) * (b >> 3 - 2 * between - column & 1);
        }
        return total % 2;
    }

    /** The codes of x are those of the first size, those of y of the second, and places of the third. */
    private static void sizesOfFactors() {
        Bilinearium x = withCube(3, 1, 2, 3);
        x.way(0);
        Due.is("the greatest codes", 0, x.result(0, 2, 8, 2));
        Due.is("the greatest codes by the cube", 0, x.resultByCube(0, 2, 8, 2));
        x.set(0, 0, 1, 2, 1);
        x.set(0, 0, 0, 1, 2);
        x.way(0);
        x.plain(1);
        Due.is("2 times 2", 1, x.result(1, 2, 2, 2));
        Due.is("2 times 2 by the cube", 1, x.resultByCube(1, 2, 2, 2));
        Due.is("2 times 1 times 2", 1, x.result(1, 2, 3, 1));
        Due.is("2 times 1 times 2 by the cube", 1, x.resultByCube(1, 2, 3, 1));
        Bilinearium y = withCube(3, 3, 2, 1, 0, 0, 0, 0, 1, 2);
        y.way(0);
        y.plain(0);
        Due.is("1 times 2 and 2 times 1", 1, y.result(0, 1, 7, 0));
        Due.is("1 times 2 and 2 times 1 by the cube", 1, y.resultByCube(0, 1, 7, 0));
        Due.argument("x 3", () -> x.result(0, 3, 0, 0));
        Due.argument("y 9", () -> x.result(0, 0, 9, 0));
        Due.index("place 3", () -> x.result(0, 0, 0, 3));
        Due.argument("x 3 by the cube", () -> x.resultByCube(0, 3, 0, 0));
        Due.argument("y 9 by the cube", () -> x.resultByCube(0, 0, 9, 0));
        Due.index("place 3 by the cube", () -> x.resultByCube(0, 0, 0, 3));
    }

    private static void promise25() {
        Bilinearium x = seven();
        x.set(0, 0, 0, 0, 0);
        for (int a = 0; a < 16; a++) {
            for (int b = 0; b < 16; b++) {
                Due.is("a matrix product " + a + "," + b, entry(a, b, a % 4), x.resultByCube(0, a, b, a % 4));
            }
        }
        Bilinearium y = withCube(5, 2, 2, 2, 1, 2, 3, 4, 0, 1, 2, 3);
        y.way(0);
        // x is 3,4 and y 2,2: place 0 has 1*6, 3*6, 0*8, 2*8; place 1 has 2*6, 4*6, 1*8, 3*8.
        Due.is("place 0", (6 + 18 + 16) % 5, y.resultByCube(0, 19, 12, 0));
        Due.is("place 1", (12 + 24 + 8 + 24) % 5, y.resultByCube(0, 19, 12, 1));
        Due.is("x at its first place", 2, y.resultByCube(0, 5, 1, 0) * 4 % 5);
        Due.index("way 1", () -> y.resultByCube(1, 0, 0, 0));
        Due.index("way -1", () -> y.resultByCube(-1, 0, 0, 0));
        Due.index("place 2", () -> y.resultByCube(0, 0, 0, 2));
        Due.index("place -1", () -> y.resultByCube(0, 0, 0, -1));
        Due.index("place 2 and no codes", () -> y.resultByCube(0, 25, -1, 2));
        Due.argument("x 25", () -> y.resultByCube(0, 25, 0, 0));
        Due.argument("x -1", () -> y.resultByCube(0, -1, 0, 0));
        Due.argument("y 25", () -> y.resultByCube(0, 0, 25, 0));
        Due.argument("y -1", () -> y.resultByCube(0, 0, -1, 0));
    }

    private static void promise26() {
        Bilinearium x = seven();
        long[] multiplications = {1, 7, 49, 343, 2401, 16807, 117649};
        long[] additions = {0, 18, 198, 1674, 12870, 94698, 681318};
        for (int level = 0; level < 7; level++) {
            Due.is("multiplications in " + level, multiplications[level], x.levels(0, level, false));
            Due.is("additions in " + level, additions[level], x.levels(0, level, true));
        }
        x.way(0);
        Due.is("no products, level 0", 1, x.levels(1, 0, false));
        Due.is("no products, level 1", 0, x.levels(1, 1, false));
        Due.is("no products, no additions", 0, x.levels(1, 6, true));
        for (int product = 0; product < 40; product++) {
            x.multiply(1, 15, 15, 15);
        }
        Due.is("more than an int holds", 4096000000L, x.levels(1, 6, false));
        long due = 0;
        long square = 1;
        for (int level = 1; level < 7; level++) {
            due = due * 40 + 396 * square;
            square *= 4;
        }
        Due.is("their additions, not shared", due, x.levels(1, 6, true));
        Due.index("way 2", () -> x.levels(2, 0, true));
        Due.index("way -1 and level 7", () -> x.levels(-1, 7, true));
        Due.argument("level 7", () -> x.levels(0, 7, true));
        Due.argument("level -1", () -> x.levels(0, -1, false));
        x.set(0, 0, 0, 0, 1);
        Due.is("a set behind the way", 7, x.levels(0, 1, false));
        x.way(0);
        Due.state("a set ahead of the way, though to the same", () -> x.levels(2, 1, true));
        Due.argument("level 7 ahead of that", () -> x.levels(2, 7, true));
        Due.state("at level 0 too", () -> x.levels(2, 0, false));
        otherCubes();
    }

    private static void otherCubes() {
        Bilinearium x = new Bilinearium();
        x.matrices(2, 2, 2);
        x.matrices(1, 1, 1);
        x.matrices(2, 2, 1);
        x.matrices(1, 2, 2);
        x.matrices(2, 1, 2);
        x.product(0, 1);
        x.cube(4, 4, 4);
        x.sum(0, 6);
        x.group(4);
        x.matrices(2, 2, 2);
        x.move(9, 0, 0, 1, 1);
        x.move(9, 0, 0, 1, 1);
        x.matrices(2, 2, 2);
        for (int cube = 0; cube < 11; cube++) {
            x.way(cube);
        }
        Due.is("2 by 2", 1, x.levels(0, 0, false));
        for (int way = 1; way < 10; way++) {
            int other = way;
            Due.state("another cube: " + other, () -> x.levels(other, 1, true));
        }
        Due.index("a set that is refused", () -> x.set(10, 0, 0, 4, 0));
        Due.argument("a number that is refused", () -> x.set(10, 0, 0, 3, 2));
        Due.argument("a move that is refused", () -> x.move(10, 0, 0, 0, 1));
        x.way(10);
        Due.is("they were not done", 0, x.levels(11, 3, true));
        Due.is("the sum is of the same numbers", 8, x.ofWay(7, 1));
    }

    public static void main(String[] args) {
        promise17();
        promise18();
        promise19();
        promise20();
        promise21();
        promise22();
        promise23();
        promise24();
        promise25();
        promise26();
        Due.end();
    }
}
