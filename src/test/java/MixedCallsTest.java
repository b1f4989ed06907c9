/** All promises against the model: long runs of mixed calls, right and wrong ones, on objects of many sizes. */
public final class MixedCallsTest {
    public static void main(String[] args) {
        for (int run = 0; run < 150; run++) {
            Numbers numbers = new Numbers(1000 + run);
            Twins twins = new Twins("run " + run, numbers.below(20) - 1, numbers.below(20) - 1);
            twins.compareAll();
            for (int call = 0; call < 120; call++) {
                oneCall(twins, numbers);
                twins.comparePlanes();
                if (call % 10 == 0) {
                    twins.compareAll();
                }
            }
        }
        Check.finish();
    }

    private static void oneCall(Twins twins, Numbers numbers) {
        switch (numbers.below(8)) {
            case 0:
                twins.setPixel(coordinate(numbers), coordinate(numbers), numbers.below(3) - 1);
                break;
            case 1:
                twins.setRow(coordinate(numbers), numbers.next() | numbers.next());
                break;
            case 2:
                for (int y = 0; y < twins.height(); y++) {
                    twins.setRow(y, numbers.next() | numbers.next());
                }
                break;
            case 3:
            case 4:
                twins.trace();
                break;
            case 5:
            case 6:
                twins.toggleFill(numbers.below(Math.max(0, twins.contourCount()) + 2) - 1);
                break;
            default:
                twins.fillAll();
                break;
        }
    }

    private static int coordinate(Numbers numbers) {
        return numbers.below(12) == 0 ? numbers.next() : numbers.below(18) - 1;
    }
}
