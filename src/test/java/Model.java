import java.math.BigInteger;
import java.util.ArrayDeque;
import java.util.ArrayList;
import java.util.Deque;
import java.util.List;

/**
 * The document once more, slow and in other ways than the program, so that a fault is not made twice:
 * open spaces by which pairs hang together, spaces by Cramer's rule, fractions of big numbers.
 */
final class Model {
    static final int NONE = -1, UNKNOWN = -1000000001, OUTSIDE = -1000000002, NOT = -1000000003, FULL = -1000000004;

    private static final class State {
        int n = 2;
        int depth = 20;
        int wanted = 100;
        int[][][] backs = new int[2][2][8];
        int[] bodies = {10, 10};
        int[][] weights = new int[2][2];

        State copied() {
            State s = new State();
            s.n = n;
            s.depth = depth;
            s.wanted = wanted;
            s.backs = new int[n][2][];
            s.bodies = bodies.clone();
            s.weights = new int[n][];
            for (int i = 0; i < n; i++) {
                s.backs[i][0] = backs[i][0].clone();
                s.backs[i][1] = backs[i][1].clone();
                s.weights[i] = weights[i].clone();
            }
            return s;
        }
    }

    private record Q(BigInteger above, BigInteger below) {
        static Q of(BigInteger a, BigInteger b) {
            BigInteger g = a.gcd(b);
            if (b.signum() < 0) {
                g = g.negate();
            }
            return new Q(a.divide(g), b.divide(g));
        }

        static Q of(long v) {
            return of(BigInteger.valueOf(v), BigInteger.ONE);
        }

        Q plus(Q o) {
            return of(above.multiply(o.below).add(o.above.multiply(below)), below.multiply(o.below));
        }

        Q times(Q o) {
            return of(above.multiply(o.above), below.multiply(o.below));
        }

        Q minus(Q o) {
            return plus(o.times(of(-1)));
        }

        Q far() {
            return new Q(above.abs(), below);
        }

        int compare(Q o) {
            return minus(o).above.signum();
        }

        long floor() {
            BigInteger[] parts = above.divideAndRemainder(below);
            return parts[0].longValueExact() - (parts[1].signum() < 0 ? 1 : 0);
        }
    }

    private State s = new State();
    private final Deque<State> past = new ArrayDeque<>();
    private final List<Integer> line = new ArrayList<>();
    private final State[] images = new State[2];

    private boolean no(int letter) {
        return letter < 0 || letter >= s.n;
    }

    private void save() {
        past.addLast(s.copied());
        if (past.size() > 8) {
            past.removeFirst();
        }
    }

    long letters(int n) {
        if (n < 1 || n > 3) {
            return OUTSIDE;
        }
        save();
        int old = s.n;
        State fresh = new State();
        fresh.n = n;
        fresh.depth = s.depth;
        fresh.wanted = s.wanted;
        fresh.backs = new int[n][2][8];
        fresh.bodies = new int[n];
        java.util.Arrays.fill(fresh.bodies, 10);
        fresh.weights = new int[n][n];
        s = fresh;
        line.clear();
        return old;
    }

    long side(int letter, int side, int height, int v) {
        if (no(letter) || height < 0 || height > 7) {
            return UNKNOWN;
        }
        if (side < 0 || side > 1 || v < 0 || v > 30) {
            return OUTSIDE;
        }
        save();
        int old = s.backs[letter][side][height];
        s.backs[letter][side][height] = v;
        return old;
    }

    long body(int letter, int v) {
        if (no(letter)) {
            return UNKNOWN;
        }
        if (v < 1 || v > 50) {
            return OUTSIDE;
        }
        save();
        int old = s.bodies[letter];
        s.bodies[letter] = v;
        return old;
    }

    long bound(int what, int v) {
        if (what < 0 || what > 1 || v < (what == 0 ? 1 : 0) || v > (what == 0 ? 60 : 500)) {
            return OUTSIDE;
        }
        save();
        int old = what == 0 ? s.depth : s.wanted;
        if (what == 0) {
            s.depth = v;
        } else {
            s.wanted = v;
        }
        return old;
    }

    long weight(int one, int behind, int v) {
        if (no(one) || no(behind)) {
            return UNKNOWN;
        }
        if (v < 0 || v > 4) {
            return OUTSIDE;
        }
        save();
        int old = s.weights[one][behind];
        s.weights[one][behind] = v;
        return old;
    }

    private boolean alike(int letter) {
        return java.util.Arrays.equals(s.backs[letter][0], s.backs[letter][1]);
    }

    private void swap(int letter) {
        int[] left = s.backs[letter][0];
        s.backs[letter][0] = s.backs[letter][1];
        s.backs[letter][1] = left;
    }

    long mirror(int letter) {
        if (no(letter)) {
            return UNKNOWN;
        }
        save();
        swap(letter);
        return alike(letter) ? 0 : 1;
    }

    long turn() {
        save();
        int[][] turned = new int[s.n][s.n];
        for (int i = 0; i < s.n; i++) {
            swap(i);
            for (int j = 0; j < s.n; j++) {
                turned[j][i] = s.weights[i][j];
            }
        }
        s.weights = turned;
        return s.n;
    }

    long copy(int letter, int of) {
        if (no(letter) || no(of) || letter == of) {
            return UNKNOWN;
        }
        save();
        int unlike = s.bodies[letter] == s.bodies[of] ? 0 : 1;
        s.bodies[letter] = s.bodies[of];
        for (int side = 0; side < 2; side++) {
            for (int h = 0; h < 8; h++) {
                if (s.backs[letter][side][h] != s.backs[of][side][h]) {
                    unlike++;
                }
            }
            s.backs[letter][side] = s.backs[of][side].clone();
        }
        return unlike;
    }

    long drift(int seed) {
        if (seed < 1 || seed > 999999) {
            return OUTSIDE;
        }
        save();
        BigInteger x = BigInteger.valueOf(seed);
        BigInteger by = BigInteger.valueOf(16807);
        BigInteger m = BigInteger.valueOf(2147483647);
        for (int k = 0; k < s.n * 16; k++) {
            x = x.multiply(by).mod(m);
            s.backs[k / 16][k / 8 % 2][k % 8] = x.mod(BigInteger.valueOf(31)).intValue();
        }
        for (int k = 0; k < s.n * s.n; k++) {
            x = x.multiply(by).mod(m);
            s.weights[k / s.n][k % s.n] = x.mod(BigInteger.valueOf(5)).intValue();
        }
        long sum = 0;
        for (int k = 0; k < s.n * s.n; k++) {
            sum += bare(k / s.n, k % s.n);
        }
        return sum;
    }

    long undo() {
        if (past.isEmpty()) {
            return NOT;
        }
        int n = s.n;
        s = past.removeLast();
        if (s.n != n) {
            line.clear();
        }
        return past.size();
    }

    private long bare(int one, int behind) {
        long sum = 0;
        for (int h = 0; h < 8; h++) {
            int deep = s.backs[one][1][h] + s.backs[behind][0][h];
            sum += deep < s.depth ? deep : s.depth;
        }
        return sum;
    }

    /** A space is open if no later one hangs together with it by pairs that have a weight. */
    private boolean[] open() {
        int m = 2 * s.n;
        boolean[][] together = new boolean[m][m];
        for (int i = 0; i < m; i++) {
            together[i][i] = true;
        }
        for (int i = 0; i < s.n; i++) {
            for (int j = 0; j < s.n; j++) {
                together[i][s.n + j] = s.weights[i][j] > 0;
                together[s.n + j][i] = s.weights[i][j] > 0;
            }
        }
        for (int k = 0; k < m; k++) {
            for (int i = 0; i < m; i++) {
                for (int j = 0; j < m; j++) {
                    together[i][j] |= together[i][k] && together[k][j];
                }
            }
        }
        boolean[] open = new boolean[m];
        for (int i = 0; i < m; i++) {
            open[i] = true;
            for (int j = i + 1; j < m; j++) {
                open[i] &= !together[i][j];
            }
        }
        return open;
    }

    private static BigInteger determinant(BigInteger[][] a) {
        if (a.length == 0) {
            return BigInteger.ONE;
        }
        BigInteger sum = BigInteger.ZERO;
        for (int c = 0; c < a.length; c++) {
            if (a[0][c].signum() == 0) {
                continue;
            }
            BigInteger[][] minor = new BigInteger[a.length - 1][a.length - 1];
            for (int i = 1; i < a.length; i++) {
                for (int j = 0; j < a.length; j++) {
                    if (j != c) {
                        minor[i - 1][j < c ? j : j - 1] = a[i][j];
                    }
                }
            }
            BigInteger term = a[0][c].multiply(determinant(minor));
            sum = c % 2 == 0 ? sum.add(term) : sum.subtract(term);
        }
        return sum;
    }

    /** In the order right of all letters, left of all letters. */
    private Q[] spaces() {
        int m = 2 * s.n;
        boolean[] open = open();
        List<Integer> closed = new ArrayList<>();
        for (int k = 0; k < m; k++) {
            if (!open[k]) {
                closed.add(k);
            }
        }
        int c = closed.size();
        long[][] a = new long[m][m];
        long[] goal = new long[m];
        for (int i = 0; i < s.n; i++) {
            for (int j = 0; j < s.n; j++) {
                long w = s.weights[i][j];
                a[i][i] += 8 * w;
                a[s.n + j][s.n + j] += 8 * w;
                a[i][s.n + j] += 8 * w;
                a[s.n + j][i] += 8 * w;
                goal[i] += w * (s.wanted - bare(i, j));
                goal[s.n + j] += w * (s.wanted - bare(i, j));
            }
        }
        BigInteger[][] normal = new BigInteger[c][c];
        for (int i = 0; i < c; i++) {
            for (int j = 0; j < c; j++) {
                normal[i][j] = BigInteger.valueOf(a[closed.get(i)][closed.get(j)]);
            }
        }
        BigInteger whole = determinant(normal);
        Q[] spaces = new Q[m];
        java.util.Arrays.fill(spaces, Q.of(0));
        for (int k = 0; k < c; k++) {
            BigInteger[][] other = new BigInteger[c][];
            for (int i = 0; i < c; i++) {
                other[i] = normal[i].clone();
                other[i][k] = BigInteger.valueOf(goal[closed.get(i)]);
            }
            spaces[closed.get(k)] = Q.of(determinant(other), whole);
        }
        return spaces;
    }

    private Q spaceOf(int letter, int side) {
        return spaces()[side == 1 ? letter : s.n + letter];
    }

    private long[] wholeSpaces() {
        Q[] spaces = spaces();
        int m = spaces.length;
        long[] whole = new long[m];
        Q sum = Q.of(0);
        long have = 0;
        for (int k = 0; k < m; k++) {
            whole[k] = spaces[k].floor();
            have += whole[k];
            sum = sum.plus(spaces[k]);
        }
        long want = sum.plus(Q.of(BigInteger.ONE, BigInteger.TWO)).floor();
        List<Integer> order = new ArrayList<>();
        for (int k = 0; k < m; k++) {
            order.add(k);
        }
        order.sort((x, y) -> spaces[y].minus(Q.of(spaces[y].floor())).compare(spaces[x].minus(Q.of(spaces[x].floor()))));
        for (int k = 0; k < want - have; k++) {
            whole[order.get(k)]++;
        }
        return whole;
    }

    private Q whiteOf(int one, int behind) {
        return Q.of(bare(one, behind)).plus(Q.of(8).times(spaceOf(one, 1).plus(spaceOf(behind, 0))));
    }

    private Q leftOver(int one, int behind) {
        return whiteOf(one, behind).minus(Q.of(s.wanted));
    }

    private Q squares() {
        Q sum = Q.of(0);
        for (int i = 0; i < s.n; i++) {
            for (int j = 0; j < s.n; j++) {
                sum = sum.plus(Q.of(s.weights[i][j]).times(leftOver(i, j)).times(leftOver(i, j)));
            }
        }
        return sum;
    }

    private long worst() {
        long worst = NONE;
        for (int i = 0; i < s.n; i++) {
            for (int j = 0; j < s.n; j++) {
                boolean first = worst == NONE;
                if (s.weights[i][j] > 0 && (first
                        || leftOver(i, j).far().compare(leftOver((int) worst / 10, (int) worst % 10).far()) > 0)) {
                    worst = 10 * i + j;
                }
            }
        }
        return worst;
    }

    private long weighted() {
        long count = 0;
        for (int[] row : s.weights) {
            for (int w : row) {
                count += w > 0 ? 1 : 0;
            }
        }
        return count;
    }

    private long openCount() {
        long count = 0;
        for (boolean o : open()) {
            count += o ? 1 : 0;
        }
        return count;
    }

    private Q wide() {
        Q sum = Q.of(0);
        for (int i = 0; i < line.size(); i++) {
            sum = sum.plus(Q.of(s.bodies[line.get(i)]));
            if (i + 1 < line.size()) {
                sum = sum.plus(spaceOf(line.get(i), 1)).plus(spaceOf(line.get(i + 1), 0));
            }
        }
        return sum;
    }

    private long thin() {
        int thin = NONE;
        for (int i = 0; i + 1 < line.size(); i++) {
            if (thin == NONE || whiteOf(line.get(i), line.get(i + 1)).compare(whiteOf(line.get(thin), line.get(thin + 1))) < 0) {
                thin = i;
            }
        }
        return thin;
    }

    String written() {
        StringBuilder text = new StringBuilder();
        for (int i = 0; i < line.size(); i++) {
            text.append((char) (97 + line.get(i)));
            if (i + 1 < line.size()) {
                text.append("-=+".charAt(1 + leftOver(line.get(i), line.get(i + 1)).above().signum()));
            }
        }
        return text + ":" + wide().above() + "/" + wide().below();
    }

    long told(int what) {
        switch (what) {
            case 0: return s.n;
            case 1: return s.depth;
            case 2: return s.wanted;
            case 3: return weighted();
            case 4: return worst();
            case 5: return squares().above().longValueExact();
            case 6: return squares().below().longValueExact();
            case 7: return openCount();
            case 8: return line.size();
            case 9: return wide().above().longValueExact();
            case 10: return wide().below().longValueExact();
            case 11: return thin();
            case 12: return written().length();
            case 13: return past.size();
            default: return OUTSIDE;
        }
    }

    long letter(int letter, int what) {
        if (no(letter)) {
            return UNKNOWN;
        }
        switch (what) {
            case 0: return s.bodies[letter];
            case 1: return alike(letter) ? 1 : 0;
            case 2: return java.util.Arrays.stream(s.backs[letter][0]).sum();
            case 3: return java.util.Arrays.stream(s.backs[letter][1]).sum();
            default: return OUTSIDE;
        }
    }

    long back(int letter, int side, int height) {
        if (no(letter) || height < 0 || height > 7) {
            return UNKNOWN;
        }
        return side < 0 || side > 1 ? OUTSIDE : s.backs[letter][side][height];
    }

    long space(int letter, int side, int what) {
        if (no(letter)) {
            return UNKNOWN;
        }
        if (side < 0 || side > 1 || what < 0 || what > 3) {
            return OUTSIDE;
        }
        int number = side == 1 ? letter : s.n + letter;
        switch (what) {
            case 0: return spaceOf(letter, side).above().longValueExact();
            case 1: return spaceOf(letter, side).below().longValueExact();
            case 2: return open()[number] ? 1 : 0;
            default: return wholeSpaces()[number];
        }
    }

    long pair(int one, int behind, int what) {
        if (no(one) || no(behind)) {
            return UNKNOWN;
        }
        switch (what) {
            case 0: return s.weights[one][behind];
            case 1: return bare(one, behind);
            case 2: return whiteOf(one, behind).above().longValueExact();
            case 3: return whiteOf(one, behind).below().longValueExact();
            case 4: return leftOver(one, behind).above().longValueExact();
            case 5: return leftOver(one, behind).below().longValueExact();
            default: return OUTSIDE;
        }
    }

    long white(int one, int behind) {
        if (no(one) || no(behind)) {
            return UNKNOWN;
        }
        long[] whole = wholeSpaces();
        return bare(one, behind) + 8 * (whole[one] + whole[s.n + behind]);
    }

    long set(int letter) {
        if (no(letter)) {
            return UNKNOWN;
        }
        if (line.size() == 16) {
            return FULL;
        }
        line.add(letter);
        return line.size();
    }

    long wipe() {
        int had = line.size();
        line.clear();
        return had;
    }

    long place(int i) {
        return i < 0 ? OUTSIDE : i < line.size() ? line.get(i) : NONE;
    }

    long sign(int i) {
        return i < 0 ? OUTSIDE : i < written().length() ? written().charAt(i) : NONE;
    }

    long keep(int i) {
        if (i < 0 || i > 1) {
            return UNKNOWN;
        }
        images[i] = s.copied();
        past.clear();
        return s.n;
    }

    long goBack(int i) {
        if (i < 0 || i > 1) {
            return UNKNOWN;
        }
        if (images[i] == null) {
            return NOT;
        }
        s = images[i].copied();
        past.clear();
        line.clear();
        return s.n;
    }
}
