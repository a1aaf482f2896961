import java.util.ArrayList;
import java.util.List;

/**
 * What an object shows behind a scene: the answers of every call that tells something, and of calls
 * that go on from there. Two objects are asked the same, one of which had one call more.
 */
final class Shown {
    private static final class Question {
        final String name;
        final Scene.Call call;

        Question(String name, Scene.Call call) {
            this.name = name;
            this.call = call;
        }
    }

    private static final int MOST = 16;

    private final Scene scene;
    private final List<Question> telling = new ArrayList<>();
    private final List<Question> goingOn = new ArrayList<>();

    Shown(Scene scene) {
        this.scene = scene;
        int cubes = askOfCubes();
        int ways = askOfWays();
        goOn(cubes, ways);
        if (goingOn.size() > room()) {
            throw new AssertionError("the scene is too long");
        }
    }

    private int room() {
        return Scene.MOST_CALLS - scene.size() - 1;
    }

    /** The first question that the call more has changed the answer of, or an empty text. */
    String changedBy(Scene.Call more) {
        for (int from = 0; from < telling.size(); from += room()) {
            String changed = changedBy(more, telling.subList(from, Math.min(telling.size(), from + room())));
            if (!changed.isEmpty()) {
                return changed;
            }
        }
        return changedBy(more, goingOn);
    }

    private String changedBy(Scene.Call more, List<Question> questions) {
        Bilinearium without = scene.made();
        Bilinearium with = scene.made();
        Due.answerOf(() -> more.on(with));
        for (Question question : questions) {
            String want = Due.answerOf(() -> question.call.on(without));
            String got = Due.answerOf(() -> question.call.on(with));
            if (!want.equals(got)) {
                return question.name + " is " + got + ", and was " + want;
            }
        }
        return "";
    }

    private void tell(String name, Scene.Call call) {
        telling.add(new Question(name, call));
    }

    private void then(String name, Scene.Call call) {
        goingOn.add(new Question(name, call));
    }

    private static boolean is(Due.Call call) {
        return !Due.answerOf(call).endsWith("Exception");
    }

    /** One place behind each size is asked for too, and one cube behind all. */
    private int askOfCubes() {
        Bilinearium scout = scene.made();
        int cubes = 0;
        while (cubes < MOST) {
            int cube = cubes;
            int[] sizes = new int[3];
            for (int size = 0; size < 4; size++) {
                int at = size;
                sizes[0] += is(() -> scout.at(cube, at, 0, 0)) ? 1 : 0;
                sizes[1] += is(() -> scout.at(cube, 0, at, 0)) ? 1 : 0;
                sizes[2] += is(() -> scout.at(cube, 0, 0, at)) ? 1 : 0;
            }
            if (sizes[0] == 0) {
                break;
            }
            askOfCube(cube, sizes);
            cubes++;
        }
        int behind = cubes;
        tell("a cube behind all", x -> x.at(behind, 0, 0, 0));
        return cubes;
    }

    private void askOfCube(int cube, int[] sizes) {
        String of = " of cube " + cube;
        for (int i = 0; i < sizes[0]; i++) {
            for (int j = 0; j < sizes[1]; j++) {
                for (int k = 0; k < sizes[2]; k++) {
                    int a = i;
                    int b = j;
                    int c = k;
                    tell("at " + a + b + c + of, x -> x.at(cube, a, b, c));
                }
            }
        }
        tell("no more of i" + of, x -> x.at(cube, sizes[0], 0, 0));
        tell("no more of j" + of, x -> x.at(cube, 0, sizes[1], 0));
        tell("no more of k" + of, x -> x.at(cube, 0, 0, sizes[2]));
        for (int side = 0; side < 3; side++) {
            int at = side;
            tell("flattening " + at + of, x -> x.flattening(cube, at));
        }
        tell("bound" + of, x -> x.bound(cube));
        tell("least" + of, x -> x.least(cube));
        tell("leastAnew" + of, x -> x.leastAnew(cube));
    }

    private int askOfWays() {
        Bilinearium scout = scene.made();
        int ways = 0;
        while (ways < MOST) {
            int way = ways;
            if (!is(() -> scout.ofWay(way, 0))) {
                break;
            }
            askOfWay(way, scout.ofWay(way, 0));
            ways++;
        }
        int behind = ways;
        tell("a way behind all", x -> x.ofWay(behind, 0));
        return ways;
    }

    private void askOfWay(int way, int products) {
        String of = " of way " + way;
        for (int what = 0; what < 5; what++) {
            int told = what;
            tell("ofWay " + told + of, x -> x.ofWay(way, told));
        }
        for (int product = 0; product <= products; product++) {
            for (int side = 0; side < 3; side++) {
                int number = product;
                int at = side;
                tell("vector " + number + "," + at + of, x -> x.vector(way, number, at));
            }
        }
        for (int level = 0; level < 3; level++) {
            int told = level;
            tell("multiplications in " + told + of, x -> x.levels(way, told, false));
            tell("additions in " + told + of, x -> x.levels(way, told, true));
        }
        askOfResults(way, of);
    }

    /** The vectors with a single 1 show all of the cube for which the way is. */
    private void askOfResults(int way, String of) {
        int prime = scene.prime();
        int[] ones = {1, prime, prime * prime, prime * prime * prime};
        for (int first : ones) {
            for (int second : ones) {
                for (int place = 0; place < 4; place++) {
                    int at = place;
                    tell("result " + first + "," + second + "," + at + of, x -> x.result(way, first, second, at));
                    tell("resultByCube " + first + "," + second + "," + at + of,
                            x -> x.resultByCube(way, first, second, at));
                }
            }
        }
    }

    /** Calls that change something show what no telling call does: what there is room for, and what was done. */
    private void goOn(int cubes, int ways) {
        then("prime again", x -> x.prime(scene.prime()));
        then("another prime", x -> x.prime(scene.prime() == 5 ? 3 : 5));
        for (int cube = 0; cube < cubes; cube++) {
            int number = cube;
            int next = ways + cube;
            then("a further way for " + number, x -> x.way(number));
            then("its levels", x -> x.levels(next, 1, true));
            then("its plain products", x -> x.plain(next));
            then("set of " + number, x -> x.set(number, 0, 0, 0, 1));
        }
        for (int way = 0; way < ways; way++) {
            int number = way;
            then("a further product of " + number, x -> x.multiply(number, 1, 1, 1));
            then("walk of " + number, x -> x.walk(number, 1, 9));
            then("reduce of " + number, x -> x.reduce(number));
            then("products of " + number, x -> x.ofWay(number, 0));
            then("additions of " + number, x -> x.ofWay(number, 2));
            then("growth of " + number, x -> x.ofWay(number, 4));
        }
        then("a further cube", x -> x.cube(1, 1, 1));
        then("a further group", x -> x.group(2));
    }
}
