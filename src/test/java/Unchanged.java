import java.util.ArrayList;
import java.util.List;
import java.util.function.Consumer;
import java.util.function.Function;
import java.util.function.Predicate;

/** Looks whether calls change nothing, in what can be asked at once and in what later calls answer. */
final class Unchanged {
    private final Situation situation;
    private final BorderTracer called;
    private final String before;
    private final List<Consumer<BorderTracer>> calls = new ArrayList<>();

    Unchanged(Situation situation) {
        this.situation = situation;
        called = situation.make();
        before = State.of(situation.make());
    }

    /** A call whose answer is looked at elsewhere. */
    void by(String name, Consumer<BorderTracer> call) {
        calls.add(call);
        call.accept(called);
        String after = State.of(called);
        if (!after.equals(before)) {
            Check.due(situation.name + ": the state after " + name, after, before);
        }
    }

    /** A call that has to answer false as well. */
    void refused(String name, Predicate<BorderTracer> call) {
        by(name, tracer -> Check.due(situation.name + ": " + name, call.test(tracer), false));
    }

    /** To be called at the end: looks once more, question by question, and at what follows. */
    void end(String name) {
        questionByQuestion("all of " + name, calls);
        questionByQuestion("the first of " + name, calls.subList(0, 1));
        questionByQuestion("the last of " + name, calls.subList(calls.size() - 1, calls.size()));
        laterCalls(name);
    }

    /** Each question is asked of an object that has seen no other question, only the calls. */
    private void questionByQuestion(String name, List<Consumer<BorderTracer>> some) {
        for (Function<BorderTracer, String> part : State.PARTS) {
            BorderTracer tracer = situation.make();
            for (Consumer<BorderTracer> call : some) {
                call.accept(tracer);
            }
            Check.due(situation.name + ": after " + name, part.apply(tracer), part.apply(situation.make()));
        }
    }

    /** A change that no question shows would show in what follows, against an object left alone. */
    private void laterCalls(String name) {
        BorderTracer left = situation.make();
        Check.due(situation.name + ": fillAll after " + name, called.fillAll(), left.fillAll());
        Check.due(situation.name + ": the state filled after " + name, State.of(called), State.of(left));
        Check.due(situation.name + ": trace after " + name, called.trace(), left.trace());
        Check.due(situation.name + ": the state traced after " + name, State.of(called), State.of(left));
        Check.due(situation.name + ": fillAll traced after " + name, called.fillAll(), left.fillAll());
        Check.due(situation.name + ": the state at last after " + name, State.of(called), State.of(left));
    }
}
