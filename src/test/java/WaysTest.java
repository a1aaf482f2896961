/** Promises 11 to 16: what makes and changes ways. */
public final class WaysTest {
    /** All products of a way, as codes. */
    static String products(Bilinearium x, int way) {
        StringBuilder told = new StringBuilder();
        int count = x.ofWay(way, 0);
        for (int product = 0; product < count; product++) {
            told.append(product == 0 ? "" : " ");
            for (int side = 0; side < 3; side++) {
                told.append(side == 0 ? "" : ",").append(x.vector(way, product, side));
            }
        }
        return told.toString();
    }

    /** A way of number 0, for a cube of number 0, with these products. */
    static Bilinearium withWay(int prime, int first, int second, int third, int... codes) {
        Bilinearium x = new Bilinearium();
        x.prime(prime);
        x.cube(first, second, third);
        x.way(0);
        for (int at = 0; at + 2 < codes.length; at += 3) {
            x.multiply(0, codes[at], codes[at + 1], codes[at + 2]);
        }
        return x;
    }

    private static void promise11() {
        Bilinearium x = new Bilinearium();
        Due.index("a way for no cube", () -> x.way(0));
        x.matrices(1, 2, 1);
        x.cube(1, 1, 3);
        for (int way = 0; way < 16; way++) {
            Due.is("way " + way, way, x.way(way % 2));
            Due.is("it has no products", 0, x.ofWay(way, 0));
        }
        Due.state("a way behind 16", () -> x.way(0));
        Due.index("a way for no cube behind 16", () -> x.way(2));
        Due.index("a way for no cube -1", () -> x.way(-1));
        Due.is("its cube is as it was: two places are not 0", 2, x.ofWay(0, 1));
        x.set(0, 0, 0, 0, 0);
        Due.is("they still are", 2, x.ofWay(0, 1));
        Due.is("by the cube too", 1, x.resultByCube(0, 2, 2, 0));
        Due.is("and plain goes by them", 2, x.plain(0));
        Bilinearium y = new Bilinearium();
        y.cube(1, 1, 1);
        y.way(0);
        y.set(0, 0, 0, 0, 1);
        y.way(0);
        Due.is("a way ahead of a set", 0, y.ofWay(0, 1));
        Due.is("a way behind it", 1, y.ofWay(1, 1));
        Due.is("products are of one way", 1, y.multiply(1, 1, 1, 1));
        Due.is("and of no other", 0, y.ofWay(0, 0));
    }

    private static void promise12() {
        Bilinearium x = withWay(3, 1, 2, 3);
        Due.is("the first", 1, x.multiply(0, 2, 8, 26));
        Due.is("the second, with zeros", 2, x.multiply(0, 0, 5, 0));
        Due.is("the same again", 3, x.multiply(0, 0, 5, 0));
        Due.same("behind the others", "2,8,26 0,5,0 0,5,0", products(x, 0));
        Due.index("no way 1", () -> x.multiply(1, 0, 0, 0));
        Due.index("no way -1, no codes", () -> x.multiply(-1, 9, 9, 27));
        Due.argument("3 is no code of size 1 by 3", () -> x.multiply(0, 3, 0, 0));
        Due.argument("9 is no code of size 2 by 3", () -> x.multiply(0, 0, 9, 0));
        Due.argument("27 is no code of size 3 by 3", () -> x.multiply(0, 0, 0, 27));
        Due.argument("-1 is no code, first", () -> x.multiply(0, -1, 0, 0));
        Due.argument("-1 is no code, second", () -> x.multiply(0, 0, -1, 0));
        Due.argument("-1 is no code, third", () -> x.multiply(0, 0, 0, -1));
        Due.same("wrong calls change nothing", "2,8,26 0,5,0 0,5,0", products(x, 0));
        for (int count = 4; count <= 40; count++) {
            Due.is("product " + count, count, x.multiply(0, count % 3, count % 9, count % 27));
        }
        Due.state("a product behind 40", () -> x.multiply(0, 0, 0, 0));
        Due.argument("a wrong product behind 40", () -> x.multiply(0, 0, 0, 27));
        Due.is("it has 40", 40, x.ofWay(0, 0));
        Due.is("the last one", 40 % 27, x.vector(0, 39, 2));
        Bilinearium y = withWay(5, 4, 4, 4);
        Due.is("the greatest codes by 5", 1, y.multiply(0, 624, 624, 624));
        Due.same("they are kept", "624,624,624", products(y, 0));
        Due.argument("625 by 5", () -> y.multiply(0, 625, 0, 0));
    }

    private static void promise13() {
        Bilinearium x = new Bilinearium();
        x.prime(5);
        x.cube(2, 2, 2);
        x.set(0, 1, 0, 1, 3);
        x.set(0, 0, 1, 0, 4);
        x.set(0, 0, 1, 1, 2);
        x.way(0);
        Due.is("three places", 3, x.plain(0));
        Due.same("in the order of i, then j, then k", "20,1,5 10,1,1 3,5,1", products(x, 0));
        Due.is("the way holds", 0, x.ofWay(0, 1));
        x.set(0, 0, 0, 0, 1);
        Due.is("those stay", 6, x.plain(0));
        Due.same("the same behind them", "20,1,5 10,1,1 3,5,1 20,1,5 10,1,1 3,5,1", products(x, 0));
        Due.index("no way 1", () -> x.plain(1));
        Due.index("no way -1", () -> x.plain(-1));
        for (int times = 2; times < 13; times++) {
            Due.is("plain again", 3 * times + 3, x.plain(0));
        }
        Due.state("42 are more than 40", () -> x.plain(0));
        Due.is("39 stay", 39, x.ofWay(0, 0));
        x.cube(4, 4, 4);
        x.way(1);
        Due.is("a cube of zeros", 0, x.plain(1));
        for (int place = 0; place < 41; place++) {
            x.set(1, place / 16, place / 4 % 4, place % 4, 1);
        }
        x.way(1);
        Due.state("41 places", () -> x.plain(2));
        Due.is("none is added", 0, x.ofWay(2, 0));
        x.set(1, 0, 0, 0, 0);
        x.way(1);
        Due.is("40 places", 40, x.plain(3));
        Due.state("and 40 more", () -> x.plain(3));
        Due.is("the first one", 25, x.vector(3, 0, 2));
        Bilinearium y = withWay(2, 1, 1, 1);
        for (int product = 0; product < 40; product++) {
            y.multiply(0, 1, 1, 1);
        }
        Due.is("no more than the 40", 40, y.plain(0));
        int[][] sizes = {{1, 2, 4}, {4, 1, 2}, {2, 4, 1}, {3, 2, 1}, {1, 3, 2}, {2, 1, 3}};
        for (int[] size : sizes) {
            Bilinearium z = new Bilinearium();
            z.prime(3);
            z.cube(size[0], size[1], size[2]);
            z.set(0, 0, 0, 0, 1);
            z.set(0, size[0] - 1, size[1] - 1, size[2] - 1, 2);
            z.way(0);
            z.plain(0);
            int[] powers = {1, 3, 9, 27};
            Due.same("the first and the last place", powers[size[0] - 1] + "," + powers[size[1] - 1] + ","
                    + powers[size[2] - 1] + " 2,1,1", products(z, 0));
        }
    }

    private static void promise14() {
        Bilinearium x = withWay(5, 2, 2, 2, 7, 11, 3, 7, 9, 22);
        x.flip(0, 0, 1, 0);
        // Side 0: 2,1 and 1,4 are 3,0; 4,2 less 0,3 is 4,4.
        Due.same("at side 0", "7,15,3 7,9,24", products(x, 0));
        Bilinearium y = withWay(5, 2, 2, 2, 11, 7, 3, 9, 7, 22);
        y.flip(0, 0, 1, 1);
        Due.same("at side 1", "15,7,3 9,7,24", products(y, 0));
        Bilinearium z = withWay(5, 2, 2, 2, 11, 3, 7, 9, 22, 7);
        z.flip(0, 0, 1, 2);
        Due.same("at side 2", "15,3,7 9,24,7", products(z, 0));
        z.flip(0, 1, 0, 2);
        // 1,4 and 3,0 are 4,4; 0,3 less 4,4 is 1,4.
        Due.same("the other way round", "15,9,7 24,24,7", products(z, 0));
        Bilinearium two = withWay(2, 3, 1, 3, 5, 1, 6, 5, 0, 3);
        two.flip(0, 1, 0, 0);
        Due.same("by 2, and without reducing", "5,1,5 5,1,3", products(two, 0));
        Bilinearium zeros = withWay(3, 1, 1, 1, 0, 1, 1, 0, 2, 1);
        zeros.flip(0, 0, 1, 0);
        Due.same("vectors of zeros are alike too", "0,0,1 0,2,0", products(zeros, 0));
        Due.index("no way 1", () -> flip(x, 1, 0, 1, 0));
        Due.index("no product 2", () -> flip(x, 0, 2, 1, 0));
        Due.index("no other 2", () -> flip(x, 0, 1, 2, 0));
        Due.index("no product -1", () -> flip(x, 0, -1, 1, 0));
        Due.index("no other -1", () -> flip(x, 0, 1, -1, 0));
        Due.index("no side 3", () -> flip(x, 0, 0, 1, 3));
        Due.index("no side -1", () -> flip(x, 0, 0, 1, -1));
        Due.index("no side, same product", () -> flip(x, 0, 0, 0, 3));
        Due.index("no product, twice", () -> flip(x, 0, 2, 2, 0));
        Due.argument("the same product", () -> flip(x, 0, 1, 1, 1));
        Due.state("unlike at side 1", () -> flip(x, 0, 0, 1, 1));
        Due.state("unlike at side 2", () -> flip(x, 0, 0, 1, 2));
        Due.same("wrong calls change nothing", "7,15,3 7,9,24", products(x, 0));
    }

    private static long flip(Bilinearium x, int way, int product, int other, int side) {
        x.flip(way, product, other, side);
        return 0;
    }

    private static void promise15() {
        Bilinearium none = withWay(2, 2, 2, 2);
        Due.is("no products", 0, none.reduce(0));
        Bilinearium zeros = withWay(2, 2, 2, 2, 0, 1, 1, 1, 2, 3, 1, 0, 1, 2, 1, 0, 3, 3, 3);
        Due.is("zeros at each side", 3, zeros.reduce(0));
        Due.same("what stays", "1,2,3 3,3,3", products(zeros, 0));
        Due.is("once more", 0, zeros.reduce(0));
        Bilinearium third = withWay(3, 2, 2, 2, 1, 2, 5, 1, 2, 8);
        Due.is("the same at sides 0 and 1", 1, third.reduce(0));
        Due.same("are added at side 2", "1,2,1", products(third, 0));
        Bilinearium second = withWay(3, 2, 2, 2, 1, 5, 2, 1, 8, 2);
        Due.is("the same at sides 0 and 2", 1, second.reduce(0));
        Due.same("are added at side 1", "1,1,2", products(second, 0));
        Bilinearium first = withWay(3, 2, 2, 2, 5, 1, 2, 8, 1, 2);
        Due.is("the same at sides 1 and 2", 1, first.reduce(0));
        Due.same("are added at side 0", "1,1,2", products(first, 0));
        Bilinearium all = withWay(3, 2, 2, 2, 4, 5, 7, 4, 5, 7);
        Due.is("the same at all three", 1, all.reduce(0));
        Due.same("are added at side 2", "4,5,5", products(all, 0));
        Bilinearium two = withWay(2, 2, 2, 2, 1, 2, 3, 1, 2, 3);
        Due.is("by 2 that makes zeros, which go too", 2, two.reduce(0));
        Due.is("none is left", 0, two.ofWay(0, 0));
        // The lowest with a partner is product 0, with 2 at its sides 1 and 2 rather than with 3 at 0 and 1.
        Bilinearium lowest = withWay(2, 3, 3, 3, 1, 2, 4, 7, 7, 7, 2, 2, 4, 1, 2, 7, 7, 7, 1);
        Due.is("the lowest product first", 2, lowest.reduce(0));
        Due.same("with the lowest behind it", "3,2,4 7,7,6 1,2,7", products(lowest, 0));
        // Were sums ahead of zeros, the last one would come into the place of the first.
        Bilinearium order = withWay(3, 2, 2, 2, 1, 1, 1, 1, 1, 2, 2, 2, 2, 1, 1, 1);
        Due.is("zeros go ahead of sums", 2, order.reduce(0));
        Due.same("what stays", "2,2,2 1,1,1", products(order, 0));
        Bilinearium chain = withWay(2, 2, 2, 2, 1, 1, 1, 2, 1, 1, 3, 2, 1, 3, 3, 2);
        Due.is("a sum makes another one possible", 3, chain.reduce(0));
        Due.same("as long as there is one", "3,3,3", products(chain, 0));
        Due.index("no way 1", () -> none.reduce(1));
        Due.index("no way -1", () -> none.reduce(-1));
    }

    private static void promise16() {
        Bilinearium none = withWay(2, 2, 2, 2);
        Due.is("without products nothing is drawn", 4711, none.walk(0, 4711, 200));
        Bilinearium one = withWay(2, 4, 4, 4, 15, 15, 15);
        Due.is("three draws a step", 22734, one.walk(0, 9, 3));
        // 0 draws 13849, 48742 and 31223: the last of three is the state.
        Due.is("three draws from 0", 31223, one.walk(0, 0, 1));
        Due.is("three draws from 65535", draws(65535, 3), one.walk(0, 65535, 1));
        Due.is("600 draws", draws(12345, 600), one.walk(0, 12345, 200));
        Due.same("one product alone stays", "15,15,15", products(one, 0));
        // A step reduces the way also without a flip, but draws by the products ahead of that.
        Bilinearium zero = withWay(2, 4, 4, 4, 0, 15, 15);
        Due.is("a product that goes in the first step", draws(7, 3), zero.walk(0, 7, 200));
        Due.is("is out", 0, zero.ofWay(0, 0));
        flippingStep();
        Bilinearium x = new Bilinearium();
        x.matrices(2, 2, 2);
        x.way(0);
        x.plain(0);
        x.flip(0, 0, 1, 0);
        Due.is("200 steps", 20297, x.walk(0, 1, 200));
        Due.is("the way still holds", 0, x.ofWay(0, 1));
        Due.is("its additions then", 8, x.ofWay(0, 2));
        Due.index("no way 1", () -> x.walk(1, 0, 1));
        Due.index("no way, no state", () -> x.walk(-1, -1, 0));
        Due.argument("state -1", () -> x.walk(0, -1, 1));
        Due.argument("state 65536", () -> x.walk(0, 65536, 1));
        Due.argument("0 steps", () -> x.walk(0, 0, 0));
        Due.argument("201 steps", () -> x.walk(0, 0, 201));
        Due.argument("-1 steps", () -> x.walk(0, 0, -1));
        Due.is("wrong calls change nothing", 8, x.ofWay(0, 2));
    }

    private static long draws(int state, int times) {
        long drawn = state;
        for (int time = 0; time < times; time++) {
            drawn = (drawn * 25173 + 13849) % 65536;
        }
        return drawn;
    }

    /** Steps of one flip each, told by the draws that are due. */
    private static void flippingStep() {
        for (int state = 0; state < 600; state++) {
            int from = state * 109;
            int product = (int) (draws(from, 1) % 2);
            int other = (int) (draws(from, 2) % 2);
            int side = (int) (draws(from, 3) % 3);
            Bilinearium x = withWay(5, 3, 3, 3, 7, 31, 1, 7, 11, 26);
            Bilinearium y = withWay(5, 3, 3, 3, 7, 31, 1, 7, 11, 26);
            Due.is("a step from " + from, draws(from, 3), x.walk(0, from, 1));
            if (product != other && side == 0) {
                y.flip(0, product, other, side);
            }
            Due.same("a step from " + from, products(y, 0), products(x, 0));
        }
    }

    public static void main(String[] args) {
        promise11();
        promise12();
        promise13();
        promise14();
        promise15();
        promise16();
        Due.end();
    }
}
