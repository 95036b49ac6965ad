/** Numbers that look drawn but are the same for the same start, so that a fault comes back. */
final class Draw {
    private long state;

    Draw(int start) {
        state = start * 7919L + 1;
    }

    int any() {
        state = state * 6364136223846793005L + 1442695040888963407L;
        return (int) (state >>> 32);
    }

    int below(int bound) {
        return (any() >>> 1) % bound;
    }

    int from(int[] numbers) {
        return numbers[below(numbers.length)];
    }

    /** The number of one of the weights, each as often as it weighs. */
    int weighed(int[] weights) {
        int sum = 0;
        for (int w : weights) {
            sum += w;
        }
        int left = below(sum);
        int at = 0;
        while (left >= weights[at]) {
            left -= weights[at];
            at++;
        }
        return at;
    }
}
