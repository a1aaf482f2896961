/**
 * Runs of up to 512 calls on new objects, drawn by a generator of its own,
 * against the model: most calls are fit, some are wrong in one argument or in several.
 */
public final class RunsTest {
    private static final int RUNS = 4000;
    private static final int CALLS = 512;
    /** How often each kind of call is drawn, in the order of the interface. */
    private static final int[] WEIGHTS = {1, 3, 2, 1, 1, 20, 6, 2, 2, 5, 30, 3, 12, 6, 8, 6, 4, 3, 6, 4, 24, 12, 8, 8,
        6};

    private final Both both;
    private long drawn;

    private RunsTest(int run) {
        both = new Both("run " + run);
        drawn = run * 7919L + 17L;
    }

    private int draw(int end) {
        drawn = drawn * 6364136223846793005L + 1442695040888963407L;
        return (int) Math.floorMod(drawn >>> 33, (long) Math.max(1, end));
    }

    private int kind() {
        int total = 0;
        for (int weight : WEIGHTS) {
            total += weight;
        }
        int left = draw(total);
        for (int kind = 0; kind < WEIGHTS.length; kind++) {
            left -= WEIGHTS[kind];
            if (left < 0) {
                return kind;
            }
        }
        return 0;
    }

    private int cube() {
        return draw(both.model.cubeCount());
    }

    private int way() {
        return draw(both.model.wayCount());
    }

    private int[] sizesOf(int cube) {
        return cube < both.model.cubeCount() ? both.model.sizesOfCube(cube) : new int[] {1, 1, 1};
    }

    private int[] sizesOfWay(int way) {
        return way < both.model.wayCount() ? both.model.sizesOfWay(way) : new int[] {1, 1, 1};
    }

    private int products(int way) {
        return way < both.model.wayCount() ? both.model.productCount(way) : 1;
    }

    /** Few codes are drawn more often, so that vectors are alike often. */
    private int code(int size) {
        int codes = both.model.codes(size);
        return draw(2) == 0 ? draw(codes) : draw(Math.min(codes, 4));
    }

    private int[] fit(int kind) {
        int cube = cube();
        int way = way();
        int[] s = sizesOf(cube);
        int[] w = sizesOfWay(way);
        int p = both.model.told();
        int side = draw(3);
        return switch (Both.nameOf(kind)) {
            case "prime" -> new int[] {new int[] {2, 3, 5}[draw(3)]};
            case "cube" -> new int[] {1 + draw(3), 1 + draw(3), 1 + draw(4)};
            case "matrices" -> draw(2) == 0 ? new int[] {2, 2, 2} : new int[] {1 + draw(4), 1 + draw(2), 1 + draw(3)};
            case "polynomials" -> new int[] {1 + draw(3), 1 + draw(3)};
            case "group" -> new int[] {1 + draw(4)};
            case "set" -> new int[] {cube, draw(s[0]), draw(s[1]), draw(s[2]), draw(p)};
            case "move" -> new int[] {cube, side, draw(s[side]), draw(s[side]), 1 + draw(p - 1)};
            case "sum", "product" -> new int[] {cube, cube()};
            case "multiply" -> new int[] {way, code(w[0]), code(w[1]), code(w[2])};
            case "flip" -> new int[] {way, draw(products(way)), draw(products(way)), side};
            case "walk" -> new int[] {way, draw(65536), 1 + draw(draw(2) == 0 ? 200 : 5)};
            case "at" -> new int[] {cube, draw(s[0]), draw(s[1]), draw(s[2])};
            case "flattening" -> new int[] {cube, side};
            case "ofWay" -> new int[] {way, draw(5)};
            case "vector" -> new int[] {way, draw(products(way)), side};
            case "result", "resultByCube" -> new int[] {way, code(w[0]), code(w[1]), draw(w[2])};
            case "levels" -> new int[] {way, draw(7), draw(2)};
            case "plain", "reduce" -> new int[] {way};
            default -> new int[] {cube};
        };
    }

    private int wrong() {
        int[] edges = {-1, 0, 1, 2, 3, 4, 5, 6, 7, 16, 40, 41, 65535, 65536, 200, 201, 15, 81, 625, -2,
            Integer.MAX_VALUE, Integer.MIN_VALUE, 1 << 30, 65537};
        return edges[draw(edges.length)];
    }

    private void run() {
        if (draw(3) != 0) {
            both.ask(0, new int[] {new int[] {2, 2, 3, 5}[draw(4)]});
        }
        // Some runs keep few cubes and ways, so that these see many calls.
        boolean few = draw(2) == 0;
        while (both.calls() < CALLS) {
            int kind = kind();
            boolean adds = kind > 0 && kind < 5 || kind > 6 && kind < 10;
            if (few && adds && both.model.cubeCount() > 1 && both.model.wayCount() > 1 && draw(40) != 0) {
                continue;
            }
            int[] a = fit(kind);
            if (draw(12) == 0) {
                a[draw(a.length)] = wrong();
            }
            if (draw(40) == 0) {
                for (int index = 0; index < a.length; index++) {
                    a[index] = wrong();
                }
            }
            both.ask(kind, a);
        }
    }

    public static void main(String[] args) {
        for (int run = 0; run < RUNS; run++) {
            new RunsTest(run).run();
        }
        Due.end();
    }
}
