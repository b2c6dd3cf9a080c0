import java.util.TreeSet;

/**
 * The boundary sentences on KINDS and of promises 38 and 39: kinds, kind. Above each test stands the sentence that it
 * holds.
 */
public final class KindBoundsTest {
    private static final Check check = new Check();

    public static void main(String[] args) {
        kindsRange();
        allOfThem();
        twoJointsAtLeast();
        setsOfLinks();
        kindRange();
        latestOnes();
        check.close();
    }

    /** "KINDS of chains with n links (3 .. 6) and j joints" and "Bad n, j (0 .. 15)". */
    private static void kindsRange() {
        MechanismHouse house = new MechanismHouse();
        check.range("kinds n", 3, 6, n -> house.kinds(n, 4));
        for (int n = 3; n <= 6; n++) {
            final int links = n;
            check.range("kinds j", 0, 15, j -> house.kinds(links, j));
        }
        check.refuses("both", Check.BAD, () -> house.kinds(7, 16));
    }

    /** The whole list, for each n and j, against one worked out here by trying all graphs and all their numberings. */
    private static void allOfThem() {
        for (int n = 3; n <= 6; n++) {
            MechanismHouse house = new MechanismHouse();
            int pairs = n * (n - 1) / 2;
            for (int j = 0; j <= 15; j++) {
                TreeSet<Integer> greatest = new TreeSet<>((a, b) -> b - a);
                for (int code = 0; code < 1 << pairs; code++) {
                    boolean[][] graph = graph(n, code);
                    if (Integer.bitCount(code) == j && isChain(n, graph)) {
                        greatest.add(greatestCode(n, graph, new int[n], 0, 0));
                    }
                }
                check.due("kinds(" + n + ", " + j + ")", house.kinds(n, j), greatest.size());
                check.due("count(12)", house.count(12), greatest.size());
                int k = 0;
                for (int code : greatest) {
                    check.due("kind(" + k + ") of " + n + ", " + j, house.kind(k), code);
                    k++;
                }
            }
        }
    }

    private static boolean[][] graph(int n, int code) {
        boolean[][] graph = new boolean[n][n];
        int bit = n * (n - 1) / 2 - 1;
        for (int a = 0; a < n; a++) {
            for (int b = a + 1; b < n; b++) {
                graph[a][b] = (code >> bit & 1) == 1;
                graph[b][a] = graph[a][b];
                bit--;
            }
        }
        return graph;
    }

    private static boolean isChain(int n, boolean[][] graph) {
        for (int set = 1; set < 1 << n; set++) {
            int links = Integer.bitCount(set);
            int within = joints(n, graph, set, set) / 2;
            boolean all = links == n;
            if (!all && links >= 2 && within > (3 * links - 3) / 2) {
                return false;
            }
            if (!all && joints(n, graph, set, ~set) == 0) {
                return false;
            }
            if (links == 1 && joints(n, graph, set, -1) < 2) {
                return false;
            }
        }
        return true;
    }

    /** How many joints go from a set of links to another one. */
    private static int joints(int n, boolean[][] graph, int from, int to) {
        int many = 0;
        for (int a = 0; a < n; a++) {
            for (int b = 0; b < n; b++) {
                many += (from >> a & 1) == 1 && (to >> b & 1) == 1 && graph[a][b] ? 1 : 0;
            }
        }
        return many;
    }

    private static int greatestCode(int n, boolean[][] graph, int[] row, int used, int size) {
        if (size == n) {
            int code = 0;
            for (int a = 0; a < n; a++) {
                for (int b = a + 1; b < n; b++) {
                    code = 2 * code + (graph[row[a]][row[b]] ? 1 : 0);
                }
            }
            return code;
        }
        int best = -1;
        for (int link = 0; link < n; link++) {
            if ((used >> link & 1) == 0) {
                row[size] = link;
                best = Math.max(best, greatestCode(n, graph, row, used | 1 << link, size + 1));
            }
        }
        return best;
    }

    private static void kinds(int n, int j, int... want) {
        MechanismHouse house = new MechanismHouse();
        check.due("kinds(" + n + ", " + j + ")", house.kinds(n, j), want.length);
        for (int k = 0; k < want.length; k++) {
            check.due("kind(" + k + ") of " + n + ", " + j, house.kind(k), want[k]);
        }
    }

    /** "joined, each link with two joints at least": fewer joints than links make none, as many one ring. */
    private static void twoJointsAtLeast() {
        for (int n = 3; n <= 6; n++) {
            kinds(n, 0);
            kinds(n, n - 1);
        }
        kinds(3, 3, 7);
        kinds(4, 4, 51);
        kinds(5, 5, 787);
        // One ring of six; two of three aren't joined.
        kinds(6, 6, 24851);
    }

    /** "no set of k links (2 .. n - 1) with more than (3 k - 3) / 2 joints among them (cut ..)". */
    private static void setsOfLinks() {
        // Three links with three joints among them are let be; of all n any number is.
        kinds(4, 5, 62);
        kinds(4, 6, 63);
        kinds(3, 4);
        // Four links among five or six have four joints at most: 4 links with 5 joints are in none.
        kinds(5, 6, 993, 937, 907);
        kinds(5, 7);
        kinds(6, 9, 29327, 28894);
        kinds(6, 10);
        kinds(6, 15);
    }

    /** "The k-th listed KIND's code. Missing." */
    private static void kindRange() {
        MechanismHouse house = new MechanismHouse();
        check.refuses("none at first", Check.MISSING, () -> house.kind(0));
        check.due("six of them", house.kinds(6, 8), 6);
        check.good("the first", () -> house.kind(0));
        check.good("the last", () -> house.kind(5));
        check.outside("kind k", 0, 5, Check.MISSING, k -> house.kind(k));
        check.due("listed by falling codes", house.kind(0) > house.kind(5) ? 1 : 0, 1);
    }

    /** "They are those that kind asks for": of the latest kinds, of none too; a bad one leaves them. */
    private static void latestOnes() {
        MechanismHouse house = new MechanismHouse();
        house.kinds(6, 7);
        house.kinds(5, 5);
        check.due("the one", house.kind(0), 787);
        check.refuses("no second", Check.MISSING, () -> house.kind(1));
        check.refuses("a bad call", Check.BAD, () -> house.kinds(2, 5));
        check.refuses("a bad call", Check.BAD, () -> house.kinds(5, -1));
        check.due("it stays", house.kind(0), 787);
        check.due("count(12)", house.count(12), 1);
        house.kinds(3, 15);
        check.due("none now", house.count(12), 0);
        check.refuses("none now", Check.MISSING, () -> house.kind(0));
    }
}
