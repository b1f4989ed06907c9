/** Looks whether calls change nothing, in what can be asked at once and in what later calls answer. */
final class Unchanged {
    private final String name;
    private final BorderTracer called;
    private final BorderTracer left;
    private final String before;

    Unchanged(Situation situation) {
        name = situation.name;
        called = situation.make();
        left = situation.make();
        before = State.of(left);
    }

    BorderTracer tracer() {
        return called;
    }

    /** After a call. */
    void look(String call) {
        String after = State.of(called);
        if (!after.equals(before)) {
            Check.due(name + ": the state after " + call, after, before);
        }
    }

    /** After all calls: a change that no question shows would show in what follows, against an object left alone. */
    void end(String calls) {
        Check.due(name + ": the state after " + calls, State.of(called), before);
        Check.due(name + ": fillAll after " + calls, called.fillAll(), left.fillAll());
        Check.due(name + ": the state filled after " + calls, State.of(called), State.of(left));
        Check.due(name + ": trace after " + calls, called.trace(), left.trace());
        Check.due(name + ": the state traced after " + calls, State.of(called), State.of(left));
        Check.due(name + ": fillAll traced after " + calls, called.fillAll(), left.fillAll());
        Check.due(name + ": the state at last after " + calls, State.of(called), State.of(left));
    }
}
