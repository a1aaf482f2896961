import java.util.ArrayList;
import java.util.List;
import java.util.function.IntToLongFunction;

/**
 * A run of calls that leads to a boundary. Each question is put to a new object behind that run,
 * so that no answer depends on another question, and no object sees more calls than the document allows.
 */
final class Scene {
    /** One call of the face. */
    interface Call {
        long on(Bilinearium x);
    }

    /** One call of the face, of a number that may be inside or outside a boundary. */
    interface CallOf {
        long on(Bilinearium x, int number);
    }

    static final int MOST_CALLS = 512;
    static final String INDEX = "IndexOutOfBoundsException";
    static final String ARGUMENT = "IllegalArgumentException";
    static final String STATE = "IllegalStateException";

    private static final int[] FARTHEST = {Integer.MIN_VALUE, -65536, 65536, Integer.MAX_VALUE};

    private final int prime;
    private final List<Call> calls;
    private Shown shown = null;

    /** A new object, of which nothing has been asked. */
    Scene() {
        this(2, List.of());
    }

    Scene(int prime) {
        this(prime, List.of(x -> x.prime(prime)));
    }

    private Scene(int prime, List<Call> calls) {
        this.prime = prime;
        this.calls = calls;
    }

    /** Cubes of a single number, 0, and ways for the first of them. */
    static Scene filled(int prime, int cubes, int ways) {
        return new Scene(prime).times(cubes, (x, time) -> x.cube(1, 1, 1)).times(ways, (x, time) -> x.way(0));
    }

    /** This run and a call more; the run itself stays as it is. */
    Scene then(Call call) {
        List<Call> more = new ArrayList<>(calls);
        more.add(call);
        return new Scene(prime, more);
    }

    /** A call that may be refused. */
    Scene trying(Call call) {
        return then(x -> Due.answerOf(() -> call.on(x)).length());
    }

    Scene times(int times, CallOf call) {
        Scene scene = this;
        for (int time = 0; time < times; time++) {
            int number = time;
            scene = scene.then(x -> call.on(x, number));
        }
        return scene;
    }

    /** A further cube, 0 if it is the first one, whose numbers are those told in their order, and others 0. */
    Scene cube(int number, int[] sizes, int... numbers) {
        Scene scene = then(x -> x.cube(sizes[0], sizes[1], sizes[2]));
        for (int at = 0; at < numbers.length; at++) {
            int i = at / sizes[2] / sizes[1];
            int j = at / sizes[2] % sizes[1];
            int k = at % sizes[2];
            int told = numbers[at];
            scene = told == 0 ? scene : scene.then(x -> x.set(number, i, j, k, told));
        }
        return scene;
    }

    /** Products of three codes each for a way. */
    Scene products(int way, int... codes) {
        return times(codes.length / 3, (x, time) ->
                x.multiply(way, codes[3 * time], codes[3 * time + 1], codes[3 * time + 2]));
    }

    Scene flip(int way, int product, int other, int side) {
        return then(x -> flip(x, way, product, other, side));
    }

    static long flip(Bilinearium x, int way, int product, int other, int side) {
        x.flip(way, product, other, side);
        return 0;
    }

    int prime() {
        return prime;
    }

    int size() {
        return calls.size();
    }

    Bilinearium made() {
        Bilinearium x = new Bilinearium();
        for (Call call : calls) {
            call.on(x);
        }
        return x;
    }

    void answers(String what, long want, Call call) {
        Bilinearium x = made();
        Due.same(what, Long.toString(want), Due.answerOf(() -> call.on(x)));
    }

    void index(String what, Call call) {
        refuses(what, INDEX, call);
    }

    void argument(String what, Call call) {
        refuses(what, ARGUMENT, call);
    }

    void state(String what, Call call) {
        refuses(what, STATE, call);
    }

    /** The call throws just this exception, and changes nothing that later calls show. */
    void refuses(String what, String exception, Call call) {
        Bilinearium x = made();
        Due.same(what, exception, Due.answerOf(() -> call.on(x)));
        changesNothing(what, call);
    }

    void changesNothing(String what, Call call) {
        if (shown == null) {
            shown = new Shown(this);
        }
        Due.same(what + " changes nothing", "", shown.changedBy(call));
    }

    /** All numbers from low to high answer what is due; those just outside, and the farthest, are refused. */
    void range(String what, int low, int high, String exception, IntToLongFunction want, CallOf call) {
        for (int number = low; number <= high; number++) {
            int inside = number;
            answers(what + " " + inside, want.applyAsLong(inside), x -> call.on(x, inside));
        }
        refuses(what + " " + (low - 1), exception, x -> call.on(x, low - 1));
        refuses(what + " " + (high + 1), exception, x -> call.on(x, high + 1));
        for (int far : FARTHEST) {
            if (far < low || far > high) {
                refuses(what + " " + far, exception, x -> call.on(x, far));
            }
        }
    }

    /** All products of a way, as codes. */
    static String products(Bilinearium x, int way) {
        StringBuilder told = new StringBuilder();
        int count = x.ofWay(way, 0);
        for (int product = 0; product < count; product++) {
            told.append(product == 0 ? "" : " ").append(x.vector(way, product, 0)).append(',')
                    .append(x.vector(way, product, 1)).append(',').append(x.vector(way, product, 2));
        }
        return told.toString();
    }

    /** The products of way 0 behind a call. */
    void leaves(String what, String want, Call call) {
        Bilinearium x = made();
        Due.answerOf(() -> call.on(x));
        Due.same(what, want, products(x, 0));
    }

    /** The numbers of a cube, in the order of i, then j, then k. */
    static String numbers(Bilinearium x, int cube, int first, int second, int third) {
        StringBuilder told = new StringBuilder();
        for (int i = 0; i < first; i++) {
            for (int j = 0; j < second; j++) {
                told.append(j > 0 ? "," : i > 0 ? " " : "");
                for (int k = 0; k < third; k++) {
                    told.append(x.at(cube, i, j, k));
                }
            }
        }
        return told.toString();
    }
}
