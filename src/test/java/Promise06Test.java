/** Promise 6: contourCount. */
public final class Promise06Test {
    public static void main(String[] args) {
        BorderTracer tracer = new BorderTracer(8, 8);
        Check.due("fresh", tracer.contourCount(), -1);
        tracer.trace();
        Check.due("empty and traced", tracer.contourCount(), 0);
        tracer.setPixel(0, 0, 1);
        Check.due("after setPixel", tracer.contourCount(), -1);
        Check.due("asking does not trace", tracer.contourCount(), -1);
        tracer.trace();
        Check.due("one", tracer.contourCount(), 1);
        tracer.setPixel(8, 0, 1);
        Check.due("after a refused setPixel", tracer.contourCount(), 1);
        tracer.setRow(0, 0b10101);
        Check.due("after setRow", tracer.contourCount(), -1);
        tracer.trace();
        Check.due("three", tracer.contourCount(), 3);
        tracer.fillAll();
        tracer.toggleFill(1);
        Check.due("after filling", tracer.contourCount(), 3);
        Check.due("nested", Pictures.drawAndTrace(Pictures.NESTED).contourCount(), 6);
        Check.finish();
    }
}
