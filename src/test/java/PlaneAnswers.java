/** What the tests of getPixel and getFilled have in common. */
final class PlaneAnswers {
    interface Question {
        int ask(BorderTracer tracer, int x, int y);
    }

    interface Picture {
        String[] of(Situation situation);
    }

    private final String name;
    private final Question question;
    private final Picture picture;

    PlaneAnswers(String name, Question question, Picture picture) {
        this.name = name;
        this.question = question;
        this.picture = picture;
    }

    /** On full planes too, so that a pixel taken for another one would answer 1. */
    void notAPixel() {
        for (Situation situation : Situation.all()) {
            noPixels(situation.name, situation.make(), situation.width(), situation.height());
        }
        for (int size = 0; size < 256; size++) {
            int width = 1 + size % 16;
            int height = 1 + size / 16;
            BorderTracer tracer = Pictures.drawAndTrace(Situation.full(width, height));
            tracer.fillAll();
            noPixels("full " + width + " x " + height, tracer, width, height);
        }
    }

    void inEveryState() {
        for (Situation situation : Situation.all()) {
            BorderTracer tracer = situation.make();
            for (int y = 0; y < situation.height(); y++) {
                for (int x = 0; x < situation.width(); x++) {
                    int want = picture.of(situation)[y].charAt(x) == '#' ? 1 : 0;
                    String call = situation.name + ": " + name + "(" + x + ", " + y + ")";
                    Check.due(call, question.ask(tracer, x, y), want);
                }
            }
        }
    }

    void changesNothing() {
        for (Situation situation : Situation.all()) {
            Unchanged unchanged = new Unchanged(situation);
            for (int y = 0; y < situation.height(); y++) {
                for (int x = 0; x < situation.width(); x++) {
                    asked(unchanged, x, y);
                }
            }
            for (int[] point : Wrong.points(situation.width(), situation.height())) {
                asked(unchanged, point[0], point[1]);
            }
            unchanged.end(name);
        }
    }

    private void asked(Unchanged unchanged, int x, int y) {
        unchanged.by(name + "(" + x + ", " + y + ")", tracer -> question.ask(tracer, x, y));
    }

    private void noPixels(String made, BorderTracer tracer, int width, int height) {
        for (int[] point : Wrong.points(width, height)) {
            String call = made + ": " + name + "(" + point[0] + ", " + point[1] + ")";
            Check.due(call, question.ask(tracer, point[0], point[1]), 0);
        }
    }
}
