/** What the tests of contourKind, contourParent, contourStart, contourLength and contourArea have in common. */
final class ContourAnswers {
    interface Question {
        int ask(BorderTracer tracer, int k);
    }

    private final String name;
    private final Question question;
    private final int invalid;

    ContourAnswers(String name, Question question, int invalid) {
        this.name = name;
        this.question = question;
        this.invalid = invalid;
    }

    /** The answers for all valid k, and the one just past them. */
    void due(String[] picture, int... want) {
        BorderTracer tracer = Pictures.drawAndTrace(picture);
        for (int k = 0; k < want.length; k++) {
            Check.due(name + "(" + k + ")", question.ask(tracer, k), want[k]);
        }
        Check.due(name + "(" + want.length + ")", question.ask(tracer, want.length), invalid);
    }

    void whileNotTraced() {
        for (Situation situation : Situation.notTraced()) {
            BorderTracer tracer = situation.make();
            for (int k = 0; k < 9; k++) {
                Check.due(situation.name + ": " + name + "(" + k + ")", question.ask(tracer, k), invalid);
            }
            wrong(situation, Wrong.numbers(0));
        }
    }

    void forNegativeNumbers() {
        for (Situation situation : Situation.traced()) {
            wrong(situation, Wrong.negativeNumbers());
        }
    }

    void forNumbersTooLarge() {
        for (Situation situation : Situation.traced()) {
            wrong(situation, Wrong.numbersFrom(situation.count));
        }
    }

    void changesNothing() {
        for (Situation situation : Situation.all()) {
            Unchanged unchanged = new Unchanged(situation);
            for (int k = 0; k < situation.n(); k++) {
                asked(unchanged, k);
            }
            for (int k : Wrong.numbers(situation.n())) {
                asked(unchanged, k);
            }
            unchanged.end(name);
        }
    }

    private void asked(Unchanged unchanged, int k) {
        unchanged.by(name + "(" + k + ")", tracer -> question.ask(tracer, k));
    }

    private void wrong(Situation situation, int[] numbers) {
        BorderTracer tracer = situation.make();
        for (int k : numbers) {
            Check.due(situation.name + ": " + name + "(" + k + ")", question.ask(tracer, k), invalid);
        }
    }
}
