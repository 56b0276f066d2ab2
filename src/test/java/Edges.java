/** The numbers at and beyond the edges of the document's ranges. */
final class Edges {
    private Edges() {
    }

    /**
     * Numbers that are not in 0 to limit - 1. Beside the nearest and the farthest stand those that
     * a shift, or a cast to a smaller type, would turn into 0.
     */
    static int[] outside(int limit) {
        return new int[] {
            Integer.MIN_VALUE, -65536, -256, -64, -1, limit, limit + 1, 64, 256, 65536, Integer.MAX_VALUE};
    }

    static int[] inside(int limit) {
        int[] numbers = new int[limit];
        for (int number = 0; number < limit; number++) {
            numbers[number] = number;
        }
        return numbers;
    }
}
