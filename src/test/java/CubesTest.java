/** Promises 1 to 10: a new object, and what makes and changes cubes. */
public final class CubesTest {
    private static String numbers(Bilinearium x, int cube, int first, int second, int third) {
        StringBuilder told = new StringBuilder();
        for (int i = 0; i < first; i++) {
            for (int j = 0; j < second; j++) {
                for (int k = 0; k < third; k++) {
                    told.append(x.at(cube, i, j, k));
                }
                told.append(j + 1 < second ? "," : "");
            }
            told.append(i + 1 < first ? " " : "");
        }
        return told.toString();
    }

    private static Bilinearium withPrime(int prime) {
        Bilinearium x = new Bilinearium();
        x.prime(prime);
        return x;
    }

    /** An object with 16 cubes, all of these sizes. */
    private static Bilinearium full(int first, int second, int third) {
        Bilinearium x = new Bilinearium();
        for (int cube = 0; cube < 16; cube++) {
            Due.is("cube " + cube + " of 16", cube, x.cube(first, second, third));
        }
        return x;
    }

    private static void promise1() {
        Bilinearium x = new Bilinearium();
        Due.is("NONE", -1, Bilinearium.NONE);
        Due.is("the prime of a new object", 2, x.prime(2));
        Due.index("a new object has no cube", () -> x.at(0, 0, 0, 0));
        Due.index("a new object has no way", () -> x.ofWay(0, 0));
        Bilinearium other = new Bilinearium();
        other.prime(5);
        other.cube(1, 1, 1);
        other.way(0);
        Due.is("objects are apart: the prime", 2, x.prime(2));
        Due.index("objects are apart: cubes", () -> x.bound(0));
        Due.index("objects are apart: ways", () -> x.reduce(0));
    }

    private static void promise2() {
        Bilinearium x = new Bilinearium();
        Due.is("prime 3", 2, x.prime(3));
        Due.is("prime 5", 3, x.prime(5));
        Due.is("prime 5 again", 5, x.prime(5));
        for (int wrong : new int[] {-5, -2, -1, 0, 1, 4, 6, 7, 9, 25, Integer.MIN_VALUE, Integer.MAX_VALUE}) {
            Due.argument("prime " + wrong, () -> x.prime(wrong));
        }
        Due.is("a wrong prime changes nothing", 5, x.prime(3));
        x.cube(1, 1, 1);
        Due.state("prime with a cube", () -> x.prime(5));
        Due.state("the same prime with a cube", () -> x.prime(3));
        Due.argument("a wrong prime with a cube", () -> x.prime(4));
        Due.is("the prime stays 3", 0, x.set(0, 0, 0, 0, 2));
        Due.argument("3 is no remainder by 3", () -> x.set(0, 0, 0, 0, 3));
        Bilinearium y = new Bilinearium();
        Due.argument("a cube that was refused", () -> y.cube(5, 1, 1));
        Due.is("it leaves the prime free", 2, y.prime(3));
    }

    private static void promise3() {
        Bilinearium x = new Bilinearium();
        Due.is("first cube", 0, x.cube(1, 2, 3));
        Due.is("second cube", 1, x.cube(4, 4, 4));
        Due.same("zeros", "000,000", numbers(x, 0, 1, 2, 3));
        Due.is("last place", 0, x.at(1, 3, 3, 3));
        Due.index("behind the first size", () -> x.at(0, 1, 0, 0));
        Due.index("behind the second size", () -> x.at(0, 0, 2, 0));
        Due.index("behind the third size", () -> x.at(0, 0, 0, 3));
        for (int wrong : new int[] {0, 5, -1, Integer.MIN_VALUE, Integer.MAX_VALUE}) {
            Due.argument("first size " + wrong, () -> x.cube(wrong, 1, 1));
            Due.argument("second size " + wrong, () -> x.cube(1, wrong, 1));
            Due.argument("third size " + wrong, () -> x.cube(1, 1, wrong));
        }
        Due.is("those refused have no number", 2, x.cube(1, 1, 1));
        Bilinearium full = full(1, 1, 1);
        Due.state("a cube behind 16", () -> full.cube(1, 1, 1));
        Due.argument("a wrong cube behind 16", () -> full.cube(1, 0, 1));
        Due.index("cube 16 is none", () -> full.at(16, 0, 0, 0));
        Due.is("cube 15 is one", 0, full.at(15, 0, 0, 0));
    }

    private static void promise4() {
        Bilinearium x = new Bilinearium();
        Due.is("2 by 2 by 2", 0, x.matrices(2, 2, 2));
        Due.same("its numbers",
                "1000,0100,0000,0000 0000,0000,1000,0100 0010,0001,0000,0000 0000,0000,0010,0001",
                numbers(x, 0, 4, 4, 4));
        Due.is("1 by 2 by 2", 1, x.matrices(1, 2, 2));
        Due.same("its numbers", "10,01,00,00 00,00,10,01", numbers(x, 1, 2, 4, 2));
        Due.is("1 by 4 by 1", 2, x.matrices(1, 4, 1));
        Due.same("its numbers", "1,0,0,0 0,1,0,0 0,0,1,0 0,0,0,1", numbers(x, 2, 4, 4, 1));
        Due.is("4 by 1 by 1", 3, x.matrices(4, 1, 1));
        Due.same("its numbers", "1000 0100 0010 0001", numbers(x, 3, 4, 1, 4));
        Due.is("1 by 1 by 4", 4, x.matrices(1, 1, 4));
        Due.same("its numbers", "1000,0100,0010,0001", numbers(x, 4, 1, 4, 4));
        Due.is("2 by 1 by 2", 5, x.matrices(2, 1, 2));
        Due.same("its numbers", "1000,0100 0010,0001", numbers(x, 5, 2, 2, 4));
        Due.is("1 by 3 by 1", 6, x.matrices(1, 3, 1));
        Due.index("it has 3", () -> x.at(6, 3, 0, 0));
        for (int wrong : new int[] {0, 5, -1, Integer.MIN_VALUE, Integer.MAX_VALUE, 1 << 16}) {
            Due.argument("a of " + wrong, () -> x.matrices(wrong, 1, 1));
            Due.argument("b of " + wrong, () -> x.matrices(1, wrong, 1));
            Due.argument("c of " + wrong, () -> x.matrices(1, 1, wrong));
        }
        Due.argument("a times b above 4", () -> x.matrices(3, 2, 1));
        Due.argument("b times c above 4", () -> x.matrices(1, 3, 2));
        Due.argument("a times c above 4", () -> x.matrices(2, 1, 3));
        Due.argument("negative sizes with a good product", () -> x.matrices(-1, -1, -1));
        Due.is("those refused have no number", 7, x.matrices(1, 1, 1));
        Bilinearium full = full(1, 1, 1);
        Due.state("matrices behind 16", () -> full.matrices(2, 2, 2));
        Due.argument("too large matrices behind 16", () -> full.matrices(2, 2, 3));
    }

    private static void promise5() {
        Bilinearium x = new Bilinearium();
        Due.is("2 and 3", 0, x.polynomials(2, 3));
        Due.same("their numbers", "1000,0100,0010 0100,0010,0001", numbers(x, 0, 2, 3, 4));
        Due.is("1 and 4", 1, x.polynomials(1, 4));
        Due.same("their numbers", "1000,0100,0010,0001", numbers(x, 1, 1, 4, 4));
        Due.is("4 and 1", 2, x.polynomials(4, 1));
        Due.same("their numbers", "1000 0100 0010 0001", numbers(x, 2, 4, 1, 4));
        Due.is("1 and 1", 3, x.polynomials(1, 1));
        Due.index("its third size is 1", () -> x.at(3, 0, 0, 1));
        for (int wrong : new int[] {0, 5, -1, Integer.MIN_VALUE, Integer.MAX_VALUE}) {
            Due.argument("a of " + wrong, () -> x.polynomials(wrong, 1));
            Due.argument("b of " + wrong, () -> x.polynomials(1, wrong));
        }
        Due.argument("3 and 3", () -> x.polynomials(3, 3));
        Due.argument("4 and 2", () -> x.polynomials(4, 2));
        Due.is("those refused have no number", 4, x.polynomials(3, 2));
        Bilinearium full = full(1, 1, 1);
        Due.state("polynomials behind 16", () -> full.polynomials(2, 2));
        Due.argument("too large polynomials behind 16", () -> full.polynomials(2, 4));
    }

    private static void promise6() {
        Bilinearium x = new Bilinearium();
        Due.is("a group of 3", 0, x.group(3));
        Due.same("its numbers", "100,010,001 010,001,100 001,100,010", numbers(x, 0, 3, 3, 3));
        Due.is("a group of 1", 1, x.group(1));
        Due.same("its number", "1", numbers(x, 1, 1, 1, 1));
        Due.is("a group of 4", 2, x.group(4));
        Due.is("3 and 2 are 1", 1, x.at(2, 3, 2, 1));
        Due.is("3 and 2 are not 2", 0, x.at(2, 3, 2, 2));
        for (int wrong : new int[] {0, 5, -1, Integer.MIN_VALUE, Integer.MAX_VALUE}) {
            Due.argument("a group of " + wrong, () -> x.group(wrong));
        }
        Due.is("those refused have no number", 3, x.group(2));
        Bilinearium full = full(1, 1, 1);
        Due.state("a group behind 16", () -> full.group(2));
        Due.argument("a wrong group behind 16", () -> full.group(5));
    }

    private static void promise7() {
        Bilinearium x = withPrime(5);
        x.cube(2, 3, 4);
        x.cube(2, 3, 4);
        Due.is("it was 0", 0, x.set(0, 1, 2, 3, 4));
        Due.is("it was 4", 4, x.set(0, 1, 2, 3, 2));
        Due.same("just one number is set", "0000,0000,0000 0000,0000,0002", numbers(x, 0, 2, 3, 4));
        Due.same("and of one cube", "0000,0000,0000 0000,0000,0000", numbers(x, 1, 2, 3, 4));
        Due.is("it was 2", 2, x.set(0, 1, 2, 3, 0));
        for (int cube : new int[] {-1, 2, 16, Integer.MIN_VALUE, Integer.MAX_VALUE}) {
            Due.index("no cube " + cube, () -> x.set(cube, 0, 0, 0, 1));
            Due.index("no cube " + cube + ", nor such a number", () -> x.set(cube, 0, 0, 0, 5));
        }
        Due.index("i of -1", () -> x.set(0, -1, 0, 0, 1));
        Due.index("i of 2", () -> x.set(0, 2, 0, 0, 1));
        Due.index("j of -1", () -> x.set(0, 0, -1, 0, 1));
        Due.index("j of 3", () -> x.set(0, 0, 3, 0, 1));
        Due.index("k of -1", () -> x.set(0, 0, 0, -1, 1));
        Due.index("k of 4", () -> x.set(0, 0, 0, 4, 1));
        Due.index("a wrong place with a wrong number", () -> x.set(0, 0, 0, 4, 5));
        Due.argument("5 by 5", () -> x.set(0, 0, 0, 0, 5));
        Due.argument("-1 by 5", () -> x.set(0, 0, 0, 0, -1));
        Due.argument("the least int", () -> x.set(0, 0, 0, 0, Integer.MIN_VALUE));
        Due.same("wrong calls change nothing", "0000,0000,0000 0000,0000,0000", numbers(x, 0, 2, 3, 4));
    }

    private static void promise8() {
        Bilinearium x = withPrime(3);
        x.cube(2, 2, 2);
        x.set(0, 0, 0, 0, 1);
        x.set(0, 0, 1, 1, 2);
        x.set(0, 1, 0, 0, 1);
        Due.same("ahead of moves", "10,02 10,00", numbers(x, 0, 2, 2, 2));
        Due.is("side 0", 3, x.move(0, 0, 0, 1, 2));
        Due.same("twice that of i 0 to that of i 1", "10,02 00,01", numbers(x, 0, 2, 2, 2));
        Due.is("side 1", 5, x.move(0, 1, 1, 0, 1));
        Due.same("that of j 1 to that of j 0", "12,02 01,01", numbers(x, 0, 2, 2, 2));
        Due.is("side 2", 8, x.move(0, 2, 1, 0, 2));
        Due.same("twice that of k 1 to that of k 0", "22,12 21,21", numbers(x, 0, 2, 2, 2));
        x.cube(1, 2, 3);
        Due.is("a move of zeros", 0, x.move(1, 2, 0, 2, 1));
        Due.index("no cube -1", () -> x.move(-1, 0, 0, 1, 1));
        Due.index("no cube 2", () -> x.move(2, 0, 0, 1, 1));
        Due.index("no side -1", () -> x.move(0, -1, 0, 1, 1));
        Due.index("no side 3", () -> x.move(0, 3, 0, 1, 1));
        Due.index("no slice 2 to add", () -> x.move(0, 0, 2, 1, 1));
        Due.index("no slice 2 to add to", () -> x.move(0, 0, 1, 2, 1));
        Due.index("no slice -1 to add", () -> x.move(0, 0, -1, 1, 1));
        Due.index("no slice -1 to add to", () -> x.move(0, 0, 1, -1, 1));
        Due.index("one slice of side 0 alone", () -> x.move(1, 0, 0, 1, 1));
        Due.index("two slices of side 1", () -> x.move(1, 1, 0, 2, 1));
        Due.index("three slices of side 2", () -> x.move(1, 2, 3, 0, 1));
        Due.index("no slice 2, twice", () -> x.move(0, 0, 2, 2, 1));
        Due.index("no slice 2, no times 0", () -> x.move(0, 0, 0, 2, 0));
        Due.argument("the same slice", () -> x.move(0, 0, 1, 1, 1));
        Due.argument("times 0", () -> x.move(0, 0, 0, 1, 0));
        Due.argument("times 3 by 3", () -> x.move(0, 0, 0, 1, 3));
        Due.argument("times -1", () -> x.move(0, 0, 0, 1, -1));
        Due.same("wrong calls change nothing", "22,12 21,21", numbers(x, 0, 2, 2, 2));
    }

    private static void promise9() {
        Bilinearium x = withPrime(5);
        x.cube(1, 2, 2);
        x.cube(1, 2, 2);
        x.set(0, 0, 0, 0, 4);
        x.set(0, 0, 1, 1, 3);
        x.set(1, 0, 0, 0, 3);
        x.set(1, 0, 0, 1, 1);
        Due.is("the sum", 2, x.sum(0, 1));
        Due.same("its numbers", "21,03", numbers(x, 2, 1, 2, 2));
        Due.is("a cube with itself", 3, x.sum(0, 0));
        Due.same("its numbers", "30,01", numbers(x, 3, 1, 2, 2));
        x.set(0, 0, 0, 0, 0);
        Due.same("it stays as the cubes change", "21,03", numbers(x, 2, 1, 2, 2));
        x.cube(2, 2, 2);
        x.cube(1, 1, 2);
        x.cube(1, 2, 1);
        for (int unlike = 4; unlike < 7; unlike++) {
            int other = unlike;
            Due.argument("unlike sizes, first " + other, () -> x.sum(other, 0));
            Due.argument("unlike sizes, second " + other, () -> x.sum(0, other));
        }
        Due.index("no first cube", () -> x.sum(7, 0));
        Due.index("no second cube", () -> x.sum(0, 7));
        Due.index("no cube -1", () -> x.sum(-1, 0));
        Due.is("those refused have no number", 7, x.sum(4, 4));
        unlikeSizes();
        Bilinearium full = full(2, 1, 1);
        Due.state("a sum behind 16", () -> full.sum(0, 15));
        Due.index("a wrong sum behind 16", () -> full.sum(0, 16));
        Bilinearium mixed = new Bilinearium();
        for (int cube = 0; cube < 16; cube++) {
            mixed.cube(1, 1, cube % 2 + 1);
        }
        Due.argument("an unlike sum behind 16", () -> mixed.sum(0, 1));
    }

    /** Sums and products of cubes with three unlike sizes, their last numbers being 1 and 2. */
    private static void unlikeSizes() {
        int[][] sizes = {{1, 2, 4}, {4, 1, 2}, {2, 4, 1}, {3, 2, 1}, {1, 3, 2}, {2, 1, 3}};
        for (int[] size : sizes) {
            Bilinearium x = withPrime(5);
            x.cube(size[0], size[1], size[2]);
            x.cube(size[0], size[1], size[2]);
            x.set(0, size[0] - 1, size[1] - 1, size[2] - 1, 1);
            x.set(1, size[0] - 1, size[1] - 1, size[2] - 1, 2);
            x.sum(0, 1);
            Due.is("the last number of the sum", 3, x.at(2, size[0] - 1, size[1] - 1, size[2] - 1));
            Due.index("no more of i", () -> x.at(2, size[0], 0, 0));
            Due.index("no more of j", () -> x.at(2, 0, size[1], 0));
            Due.index("no more of k", () -> x.at(2, 0, 0, size[2]));
            x.cube(1, 1, 1);
            x.set(3, 0, 0, 0, 2);
            x.product(2, 3);
            Due.is("the last number of the product", 1, x.at(4, size[0] - 1, size[1] - 1, size[2] - 1));
            Due.index("no more of i in the product", () -> x.at(4, size[0], 0, 0));
            Due.index("no more of j in the product", () -> x.at(4, 0, size[1], 0));
            Due.index("no more of k in the product", () -> x.at(4, 0, 0, size[2]));
            x.product(3, 2);
            Due.is("the other way round", 1, x.at(5, size[0] - 1, size[1] - 1, size[2] - 1));
        }
        Bilinearium y = withPrime(3);
        y.cube(2, 1, 2);
        y.cube(1, 4, 2);
        y.set(0, 1, 0, 0, 2);
        y.set(1, 0, 2, 1, 2);
        y.product(0, 1);
        Due.same("one number, of both", "0000,0000,0000,0000 0000,0000,0100,0000", numbers(y, 2, 2, 4, 4));
        y.product(1, 0);
        Due.same("the other way round", "0000,0000,0000,0000 0000,0000,0010,0000", numbers(y, 3, 2, 4, 4));
    }

    private static void promise10() {
        Bilinearium x = withPrime(5);
        x.cube(1, 2, 2);
        x.set(0, 0, 0, 0, 2);
        x.set(0, 0, 0, 1, 3);
        x.set(0, 0, 1, 1, 1);
        x.cube(2, 2, 1);
        x.set(1, 0, 0, 0, 1);
        x.set(1, 0, 1, 0, 4);
        x.set(1, 1, 1, 0, 3);
        Due.is("the product", 2, x.product(0, 1));
        Due.same("its numbers", "23,32,01,04 00,14,00,03", numbers(x, 2, 2, 4, 2));
        Due.is("the other way round", 3, x.product(1, 0));
        Due.same("its numbers", "23,01,32,04 00,00,14,03", numbers(x, 3, 2, 4, 2));
        Bilinearium y = new Bilinearium();
        y.group(2);
        Due.is("a square", 1, y.product(0, 0));
        y.group(4);
        Due.argument("8 is above 4, first", () -> y.product(0, 1));
        Due.argument("8 is above 4, second", () -> y.product(1, 0));
        Due.is("3 and 1 are 2 without carries", 1, y.at(1, 3, 1, 2));
        y.cube(1, 3, 1);
        Due.argument("6 is above 4", () -> y.product(0, 3));
        Due.index("no first cube", () -> y.product(4, 0));
        Due.index("no second cube", () -> y.product(0, -1));
        y.cube(1, 1, 1);
        Due.is("those refused have no number", 5, y.product(4, 3));
        Bilinearium full = full(2, 2, 2);
        Due.state("a product behind 16", () -> full.product(0, 15));
        Due.index("a wrong product behind 16", () -> full.product(16, 0));
        Bilinearium large = full(3, 1, 1);
        Due.argument("a large product behind 16", () -> large.product(0, 0));
    }

    public static void main(String[] args) {
        promise1();
        promise2();
        promise3();
        promise4();
        promise5();
        promise6();
        promise7();
        promise8();
        promise9();
        promise10();
        Due.end();
    }
}
