/** Promise 6: contourCount. */
public final class Promise06Test {
    public static void main(String[] args) {
        notTraced();
        count();
        zeroIsNotNotTraced();
        changesNothing();
        Check.finish();
    }

    private static void notTraced() {
        Check.sentence("contourCount() answers NOT_TRACED (-1) if TRACED is false");
        for (Situation situation : Situation.notTraced()) {
            Check.due(situation.name, situation.make().contourCount(), -1);
        }
        BorderTracer tracer = Pictures.drawAndTrace(Pictures.NESTED);
        tracer.setPixel(0, 0, 0);
        Check.due("after setPixel", tracer.contourCount(), -1);
        tracer.trace();
        tracer.setRow(6, 0);
        Check.due("after setRow", tracer.contourCount(), -1);
    }

    private static void count() {
        Check.sentence("else n");
        for (Situation situation : Situation.traced()) {
            Check.due(situation.name, situation.make().contourCount(), situation.count);
        }
        BorderTracer tracer = Pictures.drawAndTrace("#.#.#");
        tracer.fillAll();
        tracer.toggleFill(1);
        Check.due("after filling", tracer.contourCount(), 3);
        tracer.setPixel(5, 0, 1);
        tracer.setRow(1, 1);
        Check.due("after refused calls", tracer.contourCount(), 3);
    }

    private static void zeroIsNotNotTraced() {
        Check.sentence("else n: also when n is 0");
        BorderTracer tracer = new BorderTracer(16, 16);
        tracer.trace();
        Check.due("empty and traced", tracer.contourCount(), 0);
        tracer.setPixel(0, 0, 0);
        Check.due("empty and not traced", tracer.contourCount(), -1);
    }

    private static void changesNothing() {
        Check.sentence("It changes nothing.");
        for (Situation situation : Situation.all()) {
            Unchanged unchanged = new Unchanged(situation);
            unchanged.by("contourCount()", BorderTracer::contourCount);
            unchanged.end("contourCount");
        }
    }
}
