/** A fixed row of numbers that looks drawn by chance: the same in every run. */
final class Numbers {
    private long state;

    Numbers(long start) {
        state = start;
    }

    int below(int bound) {
        state = state * 6364136223846793005L + 1442695040888963407L;
        return (int) ((state >>> 33) % bound);
    }

    /** 0 .. count - 1 in an order drawn by chance. */
    int[] shuffled(int count) {
        int[] row = new int[count];
        for (int i = 0; i < count; i++) {
            int j = below(i + 1);
            row[i] = row[j];
            row[j] = i;
        }
        return row;
    }
}
