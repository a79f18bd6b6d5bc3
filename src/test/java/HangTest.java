import java.util.ArrayList;
import java.util.Arrays;
import java.util.List;
import java.util.Random;

/** Promise 12 on drawn sheets: small ones by all sets of cells, large ones by meeting cells. */
public final class HangTest {
    private static final Checks CHECKS = new Checks();
    private static final int FAR = 100000;

    public static void main(String[] args) {
        Random random = new Random(12);
        int[] small = new int[7];
        int[] large = new int[7];
        for (int i = 0; i < 30000; i++) {
            boolean isSmall = i % 2 == 0;
            int size = isSmall ? 4 + 2 * random.nextInt(2) : 8 + 2 * random.nextInt(5);
            PaperStars stars = Checks.sheet(size);
            Checks.cook(stars, text(random, size));
            int pieces = stars.sums(1);
            int[] had = isSmall ? small : large;
            if (pieces < 2 || pieces > (isSmall ? 6 : 5) || had[pieces] >= (isSmall ? 80 : 25)) {
                continue;
            }
            had[pieces]++;
            boolean[] deer = new boolean[256];
            for (int tries = 0; tries < 3; tries++) {
                String name = "hang of " + size + " with " + pieces + " pieces";
                CHECKS.due(name, stars.hang(),
                        isSmall ? byAllSets(stars, size, deer) : byMeeting(stars, size, deer));
                for (int j = random.nextInt(size * size / 2); j > 0; j--) {
                    int x = random.nextInt(size);
                    int y = random.nextInt(size);
                    if (stars.deer(x, y, true)) {
                        deer[16 * y + x] = true;
                    }
                }
            }
        }
        System.out.println("sheets by pieces: " + Arrays.toString(small) + " "
                + Arrays.toString(large));
        CHECKS.end();
    }

    private static String text(Random random, int size) {
        StringBuilder b = new StringBuilder(random.nextInt(3) == 0 ? "h:" : ":");
        if (random.nextBoolean()) {
            b.append("c([x*").append(random.nextInt(50)).append("+y*").append(random.nextInt(50));
            b.append("]*[x+").append(random.nextInt(9)).append("]%").append(3 + random.nextInt(19));
            b.append(">").append(random.nextInt(4)).append(")");
        } else {
            b.append("c(");
            for (int i = 2 + random.nextInt(5); i > 0; i--) {
                b.append("!(x=").append(random.nextInt(size)).append("&y=");
                b.append(random.nextInt(size)).append(i == 1 ? "))" : ")&");
            }
        }
        return b.toString();
    }

    private static int byAllSets(PaperStars stars, int size, boolean[] deer) {
        long paper = 0;
        List<Long> free = new ArrayList<>();
        for (int y = 0; y < size; y++) {
            for (int x = 0; x < size; x++) {
                long bit = 1L << (8 * y + x);
                if (stars.opened(x, y) == 1) {
                    paper |= bit;
                } else if (!deer[16 * y + x]) {
                    free.add(bit);
                }
            }
        }
        for (int most = 1; most <= free.size(); most++) {
            if (canJoin(paper, free, 0, most)) {
                return most;
            }
        }
        return -2;
    }

    private static boolean canJoin(long paper, List<Long> free, int from, int more) {
        if (more == 0) {
            return isOne(paper);
        }
        for (int i = from; i + more <= free.size(); i++) {
            if (canJoin(paper | free.get(i), free, i + 1, more - 1)) {
                return true;
            }
        }
        return false;
    }

    /** Rows are eight bits apart and at most six long, so no bit runs over. */
    private static boolean isOne(long cells) {
        long reached = cells & -cells;
        long before = 0;
        while (before != reached) {
            before = reached;
            reached |= (reached << 1 | reached >>> 1 | reached << 8 | reached >>> 8) & cells;
        }
        return reached == cells;
    }

    private static int byMeeting(PaperStars stars, int size, boolean[] deer) {
        int[] price = new int[256];
        List<Integer> ends = new ArrayList<>();
        for (int cell = 0; cell < 256; cell++) {
            int x = cell % 16;
            int y = cell / 16;
            price[cell] = FAR;
            if (x < size && y < size) {
                boolean paper = stars.opened(x, y) == 1;
                price[cell] = paper ? 0 : deer[cell] ? FAR : 1;
                if (paper && stars.piece(x, y, 0) == cell) {
                    ends.add(cell);
                }
            }
        }
        int[][] far = new int[256][];
        for (int cell = 0; cell < 256; cell++) {
            far[cell] = farFrom(cell, price);
        }
        int least = FAR;
        int k = ends.size();
        if (k == 2) {
            least = far[ends.get(0)][ends.get(1)];
        }
        for (int v = 0; v < 256; v++) {
            if (price[v] >= FAR) {
                continue;
            }
            if (k == 3) {
                least = Math.min(least, far[ends.get(0)][v] + far[ends.get(1)][v]
                        + far[ends.get(2)][v] - 2 * price[v]);
            } else if (k > 3) {
                least = Math.min(least, byPairs(ends, far, price, v));
            }
        }
        return least >= FAR ? -2 : least;
    }

    /** Four or five ends: two pairs, and the fifth one, if any, meet at a cell. */
    private static int byPairs(List<Integer> ends, int[][] far, int[] price, int v) {
        int k = ends.size();
        int least = FAR;
        for (int single = k == 5 ? 0 : 4; single < 5; single++) {
            List<Integer> four = new ArrayList<>(ends);
            int toSingle = price[v];
            if (k == 5) {
                toSingle = far[four.remove(single)][v];
            }
            for (int mate = 1; mate < 4; mate++) {
                List<Integer> rest = new ArrayList<>(four);
                int other = rest.remove(mate);
                int first = rest.remove(0);
                int sum = pair(first, other, far, price, v)
                        + pair(rest.get(0), rest.get(1), far, price, v) + toSingle - 2 * price[v];
                least = Math.min(least, sum);
            }
        }
        return least;
    }

    private static int pair(int a, int b, int[][] far, int[] price, int v) {
        int least = FAR;
        for (int u = 0; u < 256; u++) {
            if (price[u] < FAR) {
                least = Math.min(least, far[a][u] + far[b][u] + far[u][v] - 2 * price[u]);
            }
        }
        return least;
    }

    /** The prices of a way from a cell to each other one, both ends counted. */
    private static int[] farFrom(int start, int[] price) {
        int[] far = new int[256];
        Arrays.fill(far, FAR);
        if (price[start] >= FAR) {
            return far;
        }
        far[start] = price[start];
        List<Integer> todo = new ArrayList<>(List.of(start));
        while (!todo.isEmpty()) {
            int cell = todo.remove(todo.size() - 1);
            for (int other : SlowStars.beside(cell)) {
                if (other >= 0 && other < 256 && far[cell] + price[other] < far[other]) {
                    far[other] = far[cell] + price[other];
                    todo.add(0, other);
                }
            }
        }
        return far;
    }
}
