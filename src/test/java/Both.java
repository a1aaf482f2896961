/** An object and the model of it, asked the same calls; every answer is compared. */
final class Both {
    private static final String[] NAMES = {"prime", "cube", "matrices", "polynomials", "group", "set", "move", "sum",
        "product", "way", "multiply", "plain", "flip", "reduce", "walk", "at", "flattening", "bound", "least",
        "leastAnew", "ofWay", "vector", "result", "resultByCube", "levels"};
    private static final int[] COUNTS = {1, 3, 3, 2, 1, 5, 5, 2, 2, 1, 4, 1, 4, 1, 3, 4, 2, 1, 1, 1, 2, 3, 4, 4, 3};

    final Bilinearium made = new Bilinearium();
    final Model model = new Model();
    private final String run;
    private int calls = 0;

    Both(String run) {
        this.run = run;
    }

    static int kinds() {
        return NAMES.length;
    }

    static String nameOf(int kind) {
        return NAMES[kind];
    }

    static int argumentsOf(int kind) {
        return COUNTS[kind];
    }

    int calls() {
        return calls;
    }

    /** Does a call on both; returns what is due. */
    String ask(int kind, int[] a) {
        calls++;
        String want = Due.answerOf(() -> ofModel(kind, a));
        String got = Due.answerOf(() -> call(made, kind, a));
        Due.same(run + ", call " + calls + ": " + NAMES[kind] + java.util.Arrays.toString(a), want, got);
        return want;
    }

    /** One call of the face, by its place in the interface. */
    static long call(Bilinearium made, int kind, int[] a) {
        return switch (NAMES[kind]) {
            case "prime" -> made.prime(a[0]);
            case "cube" -> made.cube(a[0], a[1], a[2]);
            case "matrices" -> made.matrices(a[0], a[1], a[2]);
            case "polynomials" -> made.polynomials(a[0], a[1]);
            case "group" -> made.group(a[0]);
            case "set" -> made.set(a[0], a[1], a[2], a[3], a[4]);
            case "move" -> made.move(a[0], a[1], a[2], a[3], a[4]);
            case "sum" -> made.sum(a[0], a[1]);
            case "product" -> made.product(a[0], a[1]);
            case "way" -> made.way(a[0]);
            case "multiply" -> made.multiply(a[0], a[1], a[2], a[3]);
            case "plain" -> made.plain(a[0]);
            case "flip" -> Scene.flip(made, a[0], a[1], a[2], a[3]);
            case "reduce" -> made.reduce(a[0]);
            case "walk" -> made.walk(a[0], a[1], a[2]);
            case "at" -> made.at(a[0], a[1], a[2], a[3]);
            case "flattening" -> made.flattening(a[0], a[1]);
            case "bound" -> made.bound(a[0]);
            case "least" -> made.least(a[0]);
            case "leastAnew" -> made.leastAnew(a[0]);
            case "ofWay" -> made.ofWay(a[0], a[1]);
            case "vector" -> made.vector(a[0], a[1], a[2]);
            case "result" -> made.result(a[0], a[1], a[2], a[3]);
            case "resultByCube" -> made.resultByCube(a[0], a[1], a[2], a[3]);
            default -> made.levels(a[0], a[1], a[2] != 0);
        };
    }

    private long ofModel(int kind, int[] a) {
        return switch (NAMES[kind]) {
            case "prime" -> model.prime(a[0]);
            case "cube" -> model.cube(a[0], a[1], a[2]);
            case "matrices" -> model.matrices(a[0], a[1], a[2]);
            case "polynomials" -> model.polynomials(a[0], a[1]);
            case "group" -> model.group(a[0]);
            case "set" -> model.set(a[0], a[1], a[2], a[3], a[4]);
            case "move" -> model.move(a[0], a[1], a[2], a[3], a[4]);
            case "sum" -> model.sum(a[0], a[1]);
            case "product" -> model.product(a[0], a[1]);
            case "way" -> model.way(a[0]);
            case "multiply" -> model.multiply(a[0], a[1], a[2], a[3]);
            case "plain" -> model.plain(a[0]);
            case "flip" -> model.flip(a[0], a[1], a[2], a[3]);
            case "reduce" -> model.reduce(a[0]);
            case "walk" -> model.walk(a[0], a[1], a[2]);
            case "at" -> model.at(a[0], a[1], a[2], a[3]);
            case "flattening" -> model.flattening(a[0], a[1]);
            case "bound" -> model.bound(a[0]);
            case "least" -> model.least(a[0]);
            case "leastAnew" -> model.leastAnew(a[0]);
            case "ofWay" -> model.ofWay(a[0], a[1]);
            case "vector" -> model.vector(a[0], a[1], a[2]);
            case "result" -> model.result(a[0], a[1], a[2], a[3]);
            case "resultByCube" -> model.resultByCube(a[0], a[1], a[2], a[3]);
            default -> model.levels(a[0], a[1], a[2] != 0);
        };
    }
}
