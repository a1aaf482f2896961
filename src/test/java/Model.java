import java.util.ArrayList;
import java.util.List;
import java.util.TreeSet;

/**
 * The document once more, in its plainest words and with no care for cost:
 * vectors are rows of numbers, sums are sets, the least is a walk over all cubes.
 */
final class Model {
    private static final class Way {
        int[][][] target;
        boolean square;
        int n;
        final List<int[][]> products = new ArrayList<>();
    }

    private int prime = 2;
    private final List<int[][][]> cubes = new ArrayList<>();
    private final List<Integer> squares = new ArrayList<>();
    private final List<Way> ways = new ArrayList<>();

    private static void index(boolean fine) {
        if (!fine) {
            throw new IndexOutOfBoundsException();
        }
    }

    private static void argument(boolean fine) {
        if (!fine) {
            throw new IllegalArgumentException();
        }
    }

    private static void state(boolean fine) {
        if (!fine) {
            throw new IllegalStateException();
        }
    }

    private static boolean in(int number, int least, int most) {
        return least <= number && number <= most;
    }

    private int mod(int number) {
        return ((number % prime) + prime) % prime;
    }

    private static int[] sizes(int[][][] cube) {
        return new int[] {cube.length, cube[0].length, cube[0][0].length};
    }

    int cubeCount() {
        return cubes.size();
    }

    int wayCount() {
        return ways.size();
    }

    int productCount(int way) {
        return ways.get(way).products.size();
    }

    int[] sizesOfCube(int cube) {
        return sizes(cubes.get(cube));
    }

    int[] sizesOfWay(int way) {
        return sizes(ways.get(way).target);
    }

    int codes(int size) {
        return (int) Math.round(Math.pow(prime, size));
    }

    int told() {
        return prime;
    }

    // ---- cubes

    long prime(int p) {
        argument(p == 2 || p == 3 || p == 5);
        state(cubes.isEmpty());
        int before = prime;
        prime = p;
        return before;
    }

    private int[][][] made(int first, int second, int third, int square) {
        argument(in(first, 1, 4) && in(second, 1, 4) && in(third, 1, 4));
        state(cubes.size() < 16);
        int[][][] cube = new int[first][second][third];
        cubes.add(cube);
        squares.add(square);
        return cube;
    }

    long cube(int first, int second, int third) {
        made(first, second, third, 0);
        return cubes.size() - 1;
    }

    long matrices(int a, int b, int c) {
        argument(in(a, 1, 4) && in(b, 1, 4) && in(c, 1, 4));
        int[][][] cube = made(a * b, b * c, a * c, a == b && b == c && a > 1 ? a : 0);
        for (int i = 0; i < a * b; i++) {
            for (int j = 0; j < b * c; j++) {
                for (int k = 0; k < a * c; k++) {
                    boolean fits = i / b == k / c && i % b == j / c && j % c == k % c;
                    cube[i][j][k] = fits ? 1 : 0;
                }
            }
        }
        return cubes.size() - 1;
    }

    long polynomials(int a, int b) {
        argument(in(a, 1, 4) && in(b, 1, 4));
        int[][][] cube = made(a, b, a + b - 1, 0);
        for (int i = 0; i < a; i++) {
            for (int j = 0; j < b; j++) {
                for (int k = 0; k < a + b - 1; k++) {
                    cube[i][j][k] = i + j == k ? 1 : 0;
                }
            }
        }
        return cubes.size() - 1;
    }

    long group(int n) {
        int[][][] cube = made(n, n, n, 0);
        for (int i = 0; i < n; i++) {
            for (int j = 0; j < n; j++) {
                for (int k = 0; k < n; k++) {
                    cube[i][j][k] = (i + j) % n == k ? 1 : 0;
                }
            }
        }
        return cubes.size() - 1;
    }

    private int[][][] needCube(int cube) {
        index(in(cube, 0, cubes.size() - 1));
        return cubes.get(cube);
    }

    private static void needPlace(int[][][] cube, int i, int j, int k) {
        int[] sizes = sizes(cube);
        index(in(i, 0, sizes[0] - 1) && in(j, 0, sizes[1] - 1) && in(k, 0, sizes[2] - 1));
    }

    long set(int cube, int i, int j, int k, int number) {
        int[][][] found = needCube(cube);
        needPlace(found, i, j, k);
        argument(in(number, 0, prime - 1));
        int before = found[i][j][k];
        found[i][j][k] = number;
        squares.set(cube, 0);
        return before;
    }

    long move(int cube, int side, int from, int to, int times) {
        int[][][] found = needCube(cube);
        index(in(side, 0, 2));
        int[] sizes = sizes(found);
        index(in(from, 0, sizes[side] - 1) && in(to, 0, sizes[side] - 1));
        argument(from != to && in(times, 1, prime - 1));
        squares.set(cube, 0);
        int filled = 0;
        for (int i = 0; i < sizes[0]; i++) {
            for (int j = 0; j < sizes[1]; j++) {
                for (int k = 0; k < sizes[2]; k++) {
                    int[] at = {i, j, k};
                    if (at[side] == to) {
                        at[side] = from;
                        found[i][j][k] = mod(found[i][j][k] + times * found[at[0]][at[1]][at[2]]);
                    }
                }
            }
        }
        for (int[][] slice : found) {
            for (int[] row : slice) {
                for (int number : row) {
                    filled += number == 0 ? 0 : 1;
                }
            }
        }
        return filled;
    }

    long sum(int cube, int other) {
        int[][][] a = needCube(cube);
        int[][][] b = needCube(other);
        int[] sizes = sizes(a);
        argument(java.util.Arrays.equals(sizes, sizes(b)));
        int[][][] made = made(sizes[0], sizes[1], sizes[2], 0);
        for (int i = 0; i < sizes[0]; i++) {
            for (int j = 0; j < sizes[1]; j++) {
                for (int k = 0; k < sizes[2]; k++) {
                    made[i][j][k] = mod(a[i][j][k] + b[i][j][k]);
                }
            }
        }
        return cubes.size() - 1;
    }

    long product(int cube, int other) {
        int[][][] a = needCube(cube);
        int[][][] b = needCube(other);
        int[] s = sizes(a);
        int[] t = sizes(b);
        int[][][] made = made(s[0] * t[0], s[1] * t[1], s[2] * t[2], 0);
        for (int i = 0; i < s[0] * t[0]; i++) {
            for (int j = 0; j < s[1] * t[1]; j++) {
                for (int k = 0; k < s[2] * t[2]; k++) {
                    made[i][j][k] = mod(a[i / t[0]][j / t[1]][k / t[2]] * b[i % t[0]][j % t[1]][k % t[2]]);
                }
            }
        }
        return cubes.size() - 1;
    }

    // ---- ways

    private Way needWay(int way) {
        index(in(way, 0, ways.size() - 1));
        return ways.get(way);
    }

    long way(int cube) {
        int[][][] found = needCube(cube);
        state(ways.size() < 16);
        Way way = new Way();
        int[] sizes = sizes(found);
        way.target = new int[sizes[0]][sizes[1]][];
        for (int i = 0; i < sizes[0]; i++) {
            for (int j = 0; j < sizes[1]; j++) {
                way.target[i][j] = found[i][j].clone();
            }
        }
        way.n = squares.get(cube);
        way.square = way.n > 1;
        ways.add(way);
        return ways.size() - 1;
    }

    private int[] vectorOf(int code, int size) {
        int[] made = new int[size];
        int rest = code;
        for (int place = size - 1; place >= 0; place--) {
            made[place] = rest % prime;
            rest /= prime;
        }
        return made;
    }

    private int codeOf(int[] vector) {
        int code = 0;
        for (int number : vector) {
            code = prime * code + number;
        }
        return code;
    }

    long multiply(int way, int first, int second, int third) {
        Way found = needWay(way);
        int[] sizes = sizes(found.target);
        argument(in(first, 0, codes(sizes[0]) - 1));
        argument(in(second, 0, codes(sizes[1]) - 1));
        argument(in(third, 0, codes(sizes[2]) - 1));
        state(found.products.size() < 40);
        found.products.add(new int[][] {vectorOf(first, sizes[0]), vectorOf(second, sizes[1]),
            vectorOf(third, sizes[2])});
        return found.products.size();
    }

    long plain(int way) {
        Way found = needWay(way);
        int[] sizes = sizes(found.target);
        List<int[][]> more = new ArrayList<>();
        for (int i = 0; i < sizes[0]; i++) {
            for (int j = 0; j < sizes[1]; j++) {
                for (int k = 0; k < sizes[2]; k++) {
                    if (found.target[i][j][k] != 0) {
                        int[][] product = {new int[sizes[0]], new int[sizes[1]], new int[sizes[2]]};
                        product[0][i] = found.target[i][j][k];
                        product[1][j] = 1;
                        product[2][k] = 1;
                        more.add(product);
                    }
                }
            }
        }
        state(found.products.size() + more.size() <= 40);
        found.products.addAll(more);
        return found.products.size();
    }

    private static boolean same(int[] a, int[] b) {
        return java.util.Arrays.equals(a, b);
    }

    private void add(int[] to, int[] other, int times) {
        for (int place = 0; place < to.length; place++) {
            to[place] = mod(to[place] + times * other[place]);
        }
    }

    private void turn(Way way, int product, int other, int side) {
        int[][] p = way.products.get(product);
        int[][] q = way.products.get(other);
        List<Integer> sides = new ArrayList<>(List.of(0, 1, 2));
        sides.remove(Integer.valueOf(side));
        add(p[sides.get(0)], q[sides.get(0)], 1);
        add(q[sides.get(1)], p[sides.get(1)], -1);
    }

    long flip(int way, int product, int other, int side) {
        Way found = needWay(way);
        int last = found.products.size() - 1;
        index(in(product, 0, last) && in(other, 0, last) && in(side, 0, 2));
        argument(product != other);
        state(same(found.products.get(product)[side], found.products.get(other)[side]));
        turn(found, product, other, side);
        return 0;
    }

    private static boolean isZero(int[] vector) {
        for (int number : vector) {
            if (number != 0) {
                return false;
            }
        }
        return true;
    }

    private boolean reduceOnce(Way way) {
        List<int[][]> products = way.products;
        for (int p = 0; p < products.size(); p++) {
            int[][] product = products.get(p);
            if (isZero(product[0]) || isZero(product[1]) || isZero(product[2])) {
                products.remove(p);
                return true;
            }
        }
        for (int p = 0; p < products.size(); p++) {
            for (int q = p + 1; q < products.size(); q++) {
                List<Integer> unlike = new ArrayList<>();
                for (int side = 0; side < 3; side++) {
                    if (!same(products.get(p)[side], products.get(q)[side])) {
                        unlike.add(side);
                    }
                }
                if (unlike.size() <= 1) {
                    int third = unlike.isEmpty() ? 2 : unlike.get(0);
                    add(products.get(p)[third], products.get(q)[third], 1);
                    products.remove(q);
                    return true;
                }
            }
        }
        return false;
    }

    long reduce(int way) {
        Way found = needWay(way);
        int taken = 0;
        while (reduceOnce(found)) {
            taken++;
        }
        return taken;
    }

    long walk(int way, int from, int steps) {
        Way found = needWay(way);
        argument(in(from, 0, 65535) && in(steps, 1, 200));
        long drawn = from;
        for (int step = 0; step < steps; step++) {
            int n = found.products.size();
            if (n > 0) {
                drawn = (25173L * drawn + 13849L) % 65536L;
                int product = (int) (drawn % n);
                drawn = (25173L * drawn + 13849L) % 65536L;
                int other = (int) (drawn % n);
                drawn = (25173L * drawn + 13849L) % 65536L;
                int side = (int) (drawn % 3);
                if (product != other && same(found.products.get(product)[side], found.products.get(other)[side])) {
                    turn(found, product, other, side);
                }
            }
            reduce(way);
        }
        return drawn;
    }

    // ---- what there is

    long at(int cube, int i, int j, int k) {
        int[][][] found = needCube(cube);
        needPlace(found, i, j, k);
        return found[i][j][k];
    }

    /** The rank by counting: the prime to it is how many sums the slices have, each times a number. */
    private int rank(int[][][] cube, int side) {
        int[] sizes = sizes(cube);
        java.util.Set<String> span = new java.util.HashSet<>();
        for (int code = 0; code < codes(sizes[side]); code++) {
            int[] times = vectorOf(code, sizes[side]);
            int[] total = new int[64];
            for (int i = 0; i < sizes[0]; i++) {
                for (int j = 0; j < sizes[1]; j++) {
                    for (int k = 0; k < sizes[2]; k++) {
                        int[] at = {i, j, k};
                        int slice = at[side];
                        at[side] = 0;
                        int place = at[0] * 16 + at[1] * 4 + at[2];
                        total[place] = mod(total[place] + times[slice] * cube[i][j][k]);
                    }
                }
            }
            span.add(java.util.Arrays.toString(total));
        }
        int rank = 0;
        while (codes(rank) < span.size()) {
            rank++;
        }
        return rank;
    }

    long flattening(int cube, int side) {
        int[][][] found = needCube(cube);
        index(in(side, 0, 2));
        return rank(found, side);
    }

    long bound(int cube) {
        int[][][] found = needCube(cube);
        return Math.max(rank(found, 0), Math.max(rank(found, 1), rank(found, 2)));
    }

    private final java.util.Map<String, int[]> distances = new java.util.HashMap<>();

    /** How many products each cube of these sizes needs, by going out from the cube of zeros. */
    private int[] distancesOf(int[] sizes) {
        int[] known = distances.get(java.util.Arrays.toString(sizes));
        if (known != null) {
            return known;
        }
        List<Integer> singles = new ArrayList<>();
        for (int u = 1; u < codes(sizes[0]); u++) {
            for (int v = 1; v < codes(sizes[1]); v++) {
                for (int w = 1; w < codes(sizes[2]); w++) {
                    int[] a = vectorOf(u, sizes[0]);
                    int[] b = vectorOf(v, sizes[1]);
                    int[] c = vectorOf(w, sizes[2]);
                    int bits = 0;
                    for (int x : a) {
                        for (int y : b) {
                            for (int z : c) {
                                bits = 2 * bits + x * y * z;
                            }
                        }
                    }
                    singles.add(bits);
                }
            }
        }
        int[] far = new int[1 << sizes[0] * sizes[1] * sizes[2]];
        java.util.Arrays.fill(far, -1);
        far[0] = 0;
        List<Integer> queue = new ArrayList<>(List.of(0));
        for (int head = 0; head < queue.size(); head++) {
            for (int single : singles) {
                int next = queue.get(head) ^ single;
                if (far[next] < 0) {
                    far[next] = far[queue.get(head)] + 1;
                    queue.add(next);
                }
            }
        }
        distances.put(java.util.Arrays.toString(sizes), far);
        return far;
    }

    private long leastOf(int cube, int most) {
        int[][][] found = needCube(cube);
        int[] sizes = sizes(found);
        state(prime == 2 && sizes[0] * sizes[1] * sizes[2] <= most);
        int bits = 0;
        for (int[][] slice : found) {
            for (int[] row : slice) {
                for (int number : row) {
                    bits = 2 * bits + number;
                }
            }
        }
        return distancesOf(sizes)[bits];
    }

    long least(int cube) {
        return leastOf(cube, 12);
    }

    long leastAnew(int cube) {
        return leastOf(cube, 8);
    }

    private int wrongPlaces(Way way) {
        int[] sizes = sizes(way.target);
        int wrong = 0;
        for (int i = 0; i < sizes[0]; i++) {
            for (int j = 0; j < sizes[1]; j++) {
                for (int k = 0; k < sizes[2]; k++) {
                    int total = 0;
                    for (int[][] product : way.products) {
                        total += product[0][i] * product[1][j] * product[2][k];
                    }
                    wrong += mod(total) == way.target[i][j][k] ? 0 : 1;
                }
            }
        }
        return wrong;
    }

    /** The sums of a side, as sets of the numbers that are added. */
    private static List<TreeSet<Integer>> sums(Way way, int side) {
        List<TreeSet<Integer>> sums = new ArrayList<>();
        if (side < 2) {
            for (int[][] product : way.products) {
                TreeSet<Integer> sum = new TreeSet<>();
                for (int place = 0; place < product[side].length; place++) {
                    if (product[side][place] != 0) {
                        sum.add(place);
                    }
                }
                sums.add(sum);
            }
        } else {
            for (int place = 0; place < sizes(way.target)[2]; place++) {
                TreeSet<Integer> sum = new TreeSet<>();
                for (int p = 0; p < way.products.size(); p++) {
                    if (way.products.get(p)[2][place] != 0) {
                        sum.add(p);
                    }
                }
                sums.add(sum);
            }
        }
        return sums;
    }

    private static int additions(List<TreeSet<Integer>> sums) {
        int additions = 0;
        for (TreeSet<Integer> sum : sums) {
            additions += sum.size() > 1 ? sum.size() - 1 : 0;
        }
        return additions;
    }

    private static int shared(List<TreeSet<Integer>> sums, int numbers) {
        int made = 0;
        while (true) {
            int most = 1;
            int x = -1;
            int y = -1;
            for (int a = 0; a < numbers + made; a++) {
                for (int b = a + 1; b < numbers + made; b++) {
                    int in = 0;
                    for (TreeSet<Integer> sum : sums) {
                        in += sum.contains(a) && sum.contains(b) ? 1 : 0;
                    }
                    if (in > most) {
                        most = in;
                        x = a;
                        y = b;
                    }
                }
            }
            if (x < 0) {
                return made + additions(sums);
            }
            for (TreeSet<Integer> sum : sums) {
                if (sum.contains(x) && sum.contains(y)) {
                    sum.remove(x);
                    sum.remove(y);
                    sum.add(numbers + made);
                }
            }
            made++;
        }
    }

    private static int filled(int[] vector) {
        int filled = 0;
        for (int number : vector) {
            filled += number != 0 ? 1 : 0;
        }
        return filled;
    }

    private static int growth(Way way) {
        int greatest = 0;
        for (int place = 0; place < sizes(way.target)[2]; place++) {
            int total = 0;
            for (int[][] product : way.products) {
                total += product[2][place] != 0 ? filled(product[0]) * filled(product[1]) : 0;
            }
            greatest = Math.max(greatest, total);
        }
        return greatest;
    }

    private static int allAdditions(Way way) {
        return additions(sums(way, 0)) + additions(sums(way, 1)) + additions(sums(way, 2));
    }

    long ofWay(int way, int what) {
        Way found = needWay(way);
        argument(in(what, 0, 4));
        int[] sizes = sizes(found.target);
        return switch (what) {
            case 0 -> found.products.size();
            case 1 -> wrongPlaces(found);
            case 2 -> allAdditions(found);
            case 3 -> shared(sums(found, 0), sizes[0]) + shared(sums(found, 1), sizes[1])
                    + shared(sums(found, 2), found.products.size());
            default -> growth(found);
        };
    }

    long vector(int way, int product, int side) {
        Way found = needWay(way);
        index(in(product, 0, found.products.size() - 1) && in(side, 0, 2));
        return codeOf(found.products.get(product)[side]);
    }

    private void needFactors(Way way, int x, int y, int place) {
        int[] sizes = sizes(way.target);
        index(in(place, 0, sizes[2] - 1));
        argument(in(x, 0, codes(sizes[0]) - 1) && in(y, 0, codes(sizes[1]) - 1));
    }

    long result(int way, int x, int y, int place) {
        Way found = needWay(way);
        needFactors(found, x, y, place);
        int[] sizes = sizes(found.target);
        int[] a = vectorOf(x, sizes[0]);
        int[] b = vectorOf(y, sizes[1]);
        int total = 0;
        for (int[][] product : found.products) {
            int left = 0;
            for (int i = 0; i < sizes[0]; i++) {
                left += product[0][i] * a[i];
            }
            int right = 0;
            for (int j = 0; j < sizes[1]; j++) {
                right += product[1][j] * b[j];
            }
            total += product[2][place] * left * right;
        }
        return mod(total);
    }

    long resultByCube(int way, int x, int y, int place) {
        Way found = needWay(way);
        needFactors(found, x, y, place);
        int[] sizes = sizes(found.target);
        int[] a = vectorOf(x, sizes[0]);
        int[] b = vectorOf(y, sizes[1]);
        int total = 0;
        for (int i = 0; i < sizes[0]; i++) {
            for (int j = 0; j < sizes[1]; j++) {
                total += found.target[i][j][place] * a[i] * b[j];
            }
        }
        return mod(total);
    }

    long levels(int way, int levels, boolean additions) {
        Way found = needWay(way);
        argument(in(levels, 0, 6));
        state(found.square);
        long multiplications = 1;
        long added = 0;
        for (int level = 1; level <= levels; level++) {
            long square = 1;
            for (int below = 1; below <= level - 1; below++) {
                square *= (long) found.n * found.n;
            }
            added = added * found.products.size() + allAdditions(found) * square;
            multiplications *= found.products.size();
        }
        return additions ? added : multiplications;
    }
}
