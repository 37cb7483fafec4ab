import java.util.ArrayList;
import java.util.List;

/** Winters drawn on ricks whose layers all blow down, each keeping its FORCE: by what the document says and no more. */
final class Winters {
    int blew = 0;
    int stood = 0;

    Winters(int[][] forces, int seed, int n, int m, int rick, int stand) {
        int z = seed;
        for (int winter = 0; winter < n; winter++) {
            List<List<Integer>> left = layersOf(forces);
            for (int cut = 0; cut < m; cut++) {
                z = z * 1103515245 + 12345;
                List<Integer> from = left.get((z >>> 8) % left.size());
                blew += from.isEmpty() ? 0 : from.remove((z >>> 16) % from.size());
            }
            stood += sum(left.get(rick)) <= stand ? 1 : 0;
        }
    }

    private static List<List<Integer>> layersOf(int[][] forces) {
        List<List<Integer>> all = new ArrayList<>();
        for (int[] rick : forces) {
            List<Integer> layers = new ArrayList<>();
            for (int force : rick) {
                layers.add(force);
            }
            all.add(layers);
        }
        return all;
    }

    private static int sum(List<Integer> layers) {
        int sum = 0;
        for (int force : layers) {
            sum += force;
        }
        return sum;
    }
}
