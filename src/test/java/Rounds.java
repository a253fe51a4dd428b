import java.util.ArrayList;
import java.util.Collections;
import java.util.List;

/**
 * "If for each vertex the edges at it can be put into a round": step 2e leads along edge e from its first end
 * to its second, step 2e + 1 back. A round is a row of the steps that leave a vertex.
 */
final class Rounds {
    private Rounds() {
    }

    static List<List<Integer>> leavingSteps(int n, int[] ends) {
        List<List<Integer>> leaving = new ArrayList<>();
        for (int v = 0; v < n; v++) {
            leaving.add(new ArrayList<>());
        }
        for (int step = 0; step < ends.length; step++) {
            leaving.get(ends[step]).add(step);
        }
        return leaving;
    }

    /** "A face is a closed walk: come to a vertex by an edge, it leaves by the one that is next to that." */
    static int walks(List<List<Integer>> rounds) {
        int steps = 0;
        int count = 0;
        for (List<Integer> round : rounds) {
            steps += round.size();
            // "A vertex without edges has one face."
            count += round.isEmpty() ? 1 : 0;
        }
        int[] next = new int[steps];
        for (List<Integer> round : rounds) {
            for (int i = 0; i < round.size(); i++) {
                next[round.get(i) ^ 1] = round.get((i + 1) % round.size());
            }
        }
        boolean[] walked = new boolean[steps];
        for (int start = 0; start < steps; start++) {
            count += walked[start] ? 0 : 1;
            for (int step = start; !walked[step]; step = next[step]) {
                walked[step] = true;
            }
        }
        return count;
    }

    /** The most faces that any rounds give. */
    static int mostWalks(int n, int[] ends) {
        return mostWalks(leavingSteps(n, ends), 0, 1);
    }

    private static int mostWalks(List<List<Integer>> rounds, int v, int i) {
        if (v == rounds.size()) {
            return walks(rounds);
        }
        List<Integer> round = rounds.get(v);
        if (i >= round.size()) {
            return mostWalks(rounds, v + 1, 1);
        }
        int most = 0;
        for (int j = i; j < round.size(); j++) {
            Collections.swap(round, i, j);
            most = Math.max(most, mostWalks(rounds, v, i + 1));
            Collections.swap(round, i, j);
        }
        return most;
    }
}
