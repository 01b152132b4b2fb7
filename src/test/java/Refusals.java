import java.util.function.Supplier;
import java.util.function.ToLongFunction;

/** Looks whether calls answer what a refused one must and change nothing: each is made on an object of its own. */
final class Refusals {
    private final Due due;
    private final Supplier<PathQueries> maker;
    private final String before;

    Refusals(Due due, Supplier<PathQueries> maker) {
        this.due = due;
        this.maker = maker;
        before = Calls.state(maker.get());
    }

    void is(String call, ToLongFunction<PathQueries> refused, long answer) {
        PathQueries x = maker.get();
        due.is(call, refused.applyAsLong(x), answer);
        due.same("all that can be asked after " + call, Calls.state(x), before);
    }
}
