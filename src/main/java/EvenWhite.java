/**
 * Even colour of type: the spaces left and right of letters by which all pairs that matter have as
 * nearly the same white as can be, and lines that are set with these spaces.
 */
public final class EvenWhite {
    public static final int NONE = -1, UNKNOWN = -1000000001, OUTSIDE = -1000000002, NOT = -1000000003, FULL = -1000000004;

    private static final int MOST_LETTERS = 3, FIRST_LETTERS = 2;
    private static final int LEFT = 0, RIGHT = 1, SIDES = 2, HEIGHTS = 8, MOST_BACK = 30;
    private static final int MOST_BODY = 50, FIRST_BODY = 10;
    private static final int MOST_DEPTH = 60, FIRST_DEPTH = 20;
    private static final int MOST_WANTED = 500, FIRST_WANTED = 100;
    private static final int MOST_WEIGHT = 4, MOST_SEED = 999999;
    private static final int MOST_SPACES = SIDES * MOST_LETTERS;
    private static final int MOST_IN_LINE = 16, MOST_SIGNS = 96;
    private static final int MOST_UNDONE = 8, IMAGES = 2;

    private final Fount fount;
    private final Even even;
    private final Past past;
    private final Line line;
    private final Fount[] images;
    private final boolean[] kept;

    public EvenWhite() {
        fount = new Fount();
        even = new Even(fount);
        past = new Past();
        line = new Line(fount, even);
        images = new Fount[IMAGES];
        kept = new boolean[IMAGES];
        for (int i = 0; i < IMAGES; i++) {
            images[i] = new Fount();
        }
    }

    // ---- what there is

    public int letters(int n) {
        if (!within(n, 1, MOST_LETTERS)) {
            return OUTSIDE;
        }
        beginChange();
        int before = fount.many;
        fount.startAnew(n);
        line.makeEmpty();
        return before;
    }

    public int side(int letter, int side, int height, int v) {
        if (!fount.hasLetter(letter) || !isHeight(height)) {
            return UNKNOWN;
        }
        if (!isSide(side) || !within(v, 0, MOST_BACK)) {
            return OUTSIDE;
        }
        beginChange();
        int before = fount.backOf(letter, side, height);
        fount.putBack(letter, side, height, v);
        return before;
    }

    public int body(int letter, int v) {
        if (!fount.hasLetter(letter)) {
            return UNKNOWN;
        }
        if (!within(v, 1, MOST_BODY)) {
            return OUTSIDE;
        }
        beginChange();
        int before = fount.bodies[letter];
        fount.bodies[letter] = v;
        return before;
    }

    public int bound(int what, int v) {
        if (what == 0 && within(v, 1, MOST_DEPTH)) {
            beginChange();
            int before = fount.depth;
            fount.depth = v;
            return before;
        }
        if (what == 1 && within(v, 0, MOST_WANTED)) {
            beginChange();
            int before = fount.wanted;
            fount.wanted = v;
            return before;
        }
        return OUTSIDE;
    }

    public int weight(int one, int behind, int v) {
        if (!fount.hasPair(one, behind)) {
            return UNKNOWN;
        }
        if (!within(v, 0, MOST_WEIGHT)) {
            return OUTSIDE;
        }
        beginChange();
        int before = fount.weightOf(one, behind);
        fount.putWeight(one, behind, v);
        return before;
    }

    public int mirror(int letter) {
        if (!fount.hasLetter(letter)) {
            return UNKNOWN;
        }
        beginChange();
        int unlike = fount.hasLikeSides(letter) ? 0 : 1;
        fount.swapSides(letter);
        return unlike;
    }

    public int turn() {
        beginChange();
        fount.turnRound();
        return fount.many;
    }

    public int copy(int letter, int of) {
        if (!fount.hasPair(letter, of) || letter == of) {
            return UNKNOWN;
        }
        beginChange();
        return fount.takeLetter(letter, of);
    }

    public int drift(int seed) {
        if (!within(seed, 1, MOST_SEED)) {
            return OUTSIDE;
        }
        beginChange();
        fount.drawLots(seed);
        return fount.bareOfAll();
    }

    public int undo() {
        if (past.many == 0) {
            return NOT;
        }
        int before = fount.many;
        past.giveBack(fount);
        even.forget();
        if (fount.many != before) {
            line.makeEmpty();
        }
        return past.many;
    }

    public long told(int what) {
        even.find();
        switch (what) {
            case 0: return fount.many;
            case 1: return fount.depth;
            case 2: return fount.wanted;
            case 3: return fount.pairsWithWeight();
            case 4: return even.worst();
            case 5: return aboveOf(even.squaresAbove(), even.squaresBelow());
            case 6: return belowOf(even.squaresAbove(), even.squaresBelow());
            case 7: return even.openSpaces();
            case 8: return line.many;
            case 9: return aboveOf(line.wideAbove(), even.spaceBelow());
            case 10: return belowOf(line.wideAbove(), even.spaceBelow());
            case 11: return line.thin();
            case 12: return line.written().many;
            case 13: return past.many;
            default: return OUTSIDE;
        }
    }

    public int letter(int letter, int what) {
        if (!fount.hasLetter(letter)) {
            return UNKNOWN;
        }
        switch (what) {
            case 0: return fount.bodies[letter];
            case 1: return fount.hasLikeSides(letter) ? 1 : 0;
            case 2: return fount.sumOfSide(letter, LEFT);
            case 3: return fount.sumOfSide(letter, RIGHT);
            default: return OUTSIDE;
        }
    }

    public int back(int letter, int side, int height) {
        if (!fount.hasLetter(letter) || !isHeight(height)) {
            return UNKNOWN;
        }
        if (!isSide(side)) {
            return OUTSIDE;
        }
        return fount.backOf(letter, side, height);
    }

    public long space(int letter, int side, int what) {
        if (!fount.hasLetter(letter)) {
            return UNKNOWN;
        }
        if (!isSide(side)) {
            return OUTSIDE;
        }
        even.find();
        switch (what) {
            case 0: return aboveOf(even.spaceAbove(letter, side), even.spaceBelow());
            case 1: return belowOf(even.spaceAbove(letter, side), even.spaceBelow());
            case 2: return even.isOpen(letter, side) ? 1 : 0;
            case 3: return even.wholeSpace(letter, side);
            default: return OUTSIDE;
        }
    }

    public long pair(int one, int behind, int what) {
        if (!fount.hasPair(one, behind)) {
            return UNKNOWN;
        }
        even.find();
        switch (what) {
            case 0: return fount.weightOf(one, behind);
            case 1: return fount.bareOf(one, behind);
            case 2: return aboveOf(even.whiteAbove(one, behind), even.whiteBelow());
            case 3: return belowOf(even.whiteAbove(one, behind), even.whiteBelow());
            case 4: return aboveOf(even.leftOverAbove(one, behind), even.whiteBelow());
            case 5: return belowOf(even.leftOverAbove(one, behind), even.whiteBelow());
            default: return OUTSIDE;
        }
    }

    public int white(int one, int behind) {
        if (!fount.hasPair(one, behind)) {
            return UNKNOWN;
        }
        even.find();
        long spaces = even.wholeSpace(one, RIGHT) + even.wholeSpace(behind, LEFT);
        return (int) (fount.bareOf(one, behind) + HEIGHTS * spaces);
    }

    // ---- lines

    public int set(int letter) {
        if (!fount.hasLetter(letter)) {
            return UNKNOWN;
        }
        if (line.many >= MOST_IN_LINE) {
            return FULL;
        }
        line.add(letter);
        return line.many;
    }

    public int wipe() {
        int before = line.many;
        line.makeEmpty();
        return before;
    }

    public int place(int i) {
        return i < 0 ? OUTSIDE : line.letterAt(i);
    }

    public int sign(int i) {
        if (i < 0) {
            return OUTSIDE;
        }
        even.find();
        return line.written().signAt(i);
    }

    // ---- images

    public int keep(int i) {
        if (!isImage(i)) {
            return UNKNOWN;
        }
        images[i].takeAll(fount);
        kept[i] = true;
        past.forget();
        return fount.many;
    }

    public int goBack(int i) {
        if (!isImage(i)) {
            return UNKNOWN;
        }
        if (!kept[i]) {
            return NOT;
        }
        fount.takeAll(images[i]);
        even.forget();
        past.forget();
        line.makeEmpty();
        return fount.many;
    }

    /** Every call that can be undone goes through here, once it is sure that it is not refused. */
    private void beginChange() {
        past.remember(fount);
        even.forget();
    }

    private static boolean within(int v, int least, int most) {
        return v >= least && v <= most;
    }

    private static boolean isSide(int side) {
        return within(side, 0, SIDES - 1);
    }

    private static boolean isHeight(int height) {
        return within(height, 0, HEIGHTS - 1);
    }

    private static boolean isImage(int i) {
        return within(i, 0, IMAGES - 1);
    }

    private static long aboveOf(long above, long below) {
        return above / commonDivisor(above, below);
    }

    private static long belowOf(long above, long below) {
        return below / commonDivisor(above, below);
    }

    /** Never below 1, so that it can be divided by. */
    private static long commonDivisor(long a, long b) {
        long greater = Math.abs(a);
        long lesser = Math.abs(b);
        // Euclid's way takes less than 92 steps for any two longs.
        for (int step = 0; step < 100 && lesser > 0; step++) {
            long rest = greater % lesser;
            greater = lesser;
            lesser = rest;
        }
        return Math.max(1, greater);
    }

    /** All of section 1 of the document: what a change takes hold of, and what undo and images bring back. */
    private static final class Fount {
        int many;
        int depth;
        int wanted;
        final int[] bodies;
        private final int[] backs;
        private final int[] weights;

        Fount() {
            depth = FIRST_DEPTH;
            wanted = FIRST_WANTED;
            bodies = new int[MOST_LETTERS];
            backs = new int[MOST_LETTERS * SIDES * HEIGHTS];
            weights = new int[MOST_LETTERS * MOST_LETTERS];
            startAnew(FIRST_LETTERS);
        }

        void startAnew(int n) {
            many = n;
            for (int i = 0; i < bodies.length; i++) {
                bodies[i] = FIRST_BODY;
            }
            for (int i = 0; i < backs.length; i++) {
                backs[i] = 0;
            }
            for (int i = 0; i < weights.length; i++) {
                weights[i] = 0;
            }
        }

        void takeAll(Fount from) {
            many = from.many;
            depth = from.depth;
            wanted = from.wanted;
            System.arraycopy(from.bodies, 0, bodies, 0, bodies.length);
            System.arraycopy(from.backs, 0, backs, 0, backs.length);
            System.arraycopy(from.weights, 0, weights, 0, weights.length);
        }

        boolean hasLetter(int letter) {
            return within(letter, 0, many - 1);
        }

        boolean hasPair(int one, int behind) {
            return hasLetter(one) && hasLetter(behind);
        }

        private static int placeOfBack(int letter, int side, int height) {
            return (letter * SIDES + side) * HEIGHTS + height;
        }

        int backOf(int letter, int side, int height) {
            return backs[placeOfBack(letter, side, height)];
        }

        void putBack(int letter, int side, int height, int v) {
            backs[placeOfBack(letter, side, height)] = v;
        }

        int weightOf(int one, int behind) {
            return weights[one * MOST_LETTERS + behind];
        }

        void putWeight(int one, int behind, int v) {
            weights[one * MOST_LETTERS + behind] = v;
        }

        int pairsWithWeight() {
            int count = 0;
            for (int i = 0; i < weights.length; i++) {
                count += weights[i] > 0 ? 1 : 0;
            }
            return count;
        }

        int sumOfSide(int letter, int side) {
            int sum = 0;
            for (int height = 0; height < HEIGHTS; height++) {
                sum += backOf(letter, side, height);
            }
            return sum;
        }

        int bareOf(int one, int behind) {
            int right = placeOfBack(one, RIGHT, 0);
            int left = placeOfBack(behind, LEFT, 0);
            int sum = 0;
            for (int height = 0; height < HEIGHTS; height++) {
                sum += Math.min(depth, backs[right + height] + backs[left + height]);
            }
            return sum;
        }

        int bareOfAll() {
            int sum = 0;
            for (int one = 0; one < many; one++) {
                for (int behind = 0; behind < many; behind++) {
                    sum += bareOf(one, behind);
                }
            }
            return sum;
        }

        boolean hasLikeSides(int letter) {
            for (int height = 0; height < HEIGHTS; height++) {
                if (backOf(letter, LEFT, height) != backOf(letter, RIGHT, height)) {
                    return false;
                }
            }
            return true;
        }

        void swapSides(int letter) {
            for (int height = 0; height < HEIGHTS; height++) {
                int left = backOf(letter, LEFT, height);
                putBack(letter, LEFT, height, backOf(letter, RIGHT, height));
                putBack(letter, RIGHT, height, left);
            }
        }

        void turnRound() {
            for (int one = 0; one < many; one++) {
                swapSides(one);
                for (int behind = 0; behind < one; behind++) {
                    int weight = weightOf(one, behind);
                    putWeight(one, behind, weightOf(behind, one));
                    putWeight(behind, one, weight);
                }
            }
        }

        /** How many numbers of the letter became other ones. */
        int takeLetter(int letter, int of) {
            int others = bodies[letter] != bodies[of] ? 1 : 0;
            bodies[letter] = bodies[of];
            for (int side = 0; side < SIDES; side++) {
                for (int height = 0; height < HEIGHTS; height++) {
                    int v = backOf(of, side, height);
                    others += backOf(letter, side, height) != v ? 1 : 0;
                    putBack(letter, side, height, v);
                }
            }
            return others;
        }

        void drawLots(int seed) {
            long x = seed;
            for (int letter = 0; letter < many; letter++) {
                for (int side = 0; side < SIDES; side++) {
                    for (int height = 0; height < HEIGHTS; height++) {
                        x = nextLot(x);
                        putBack(letter, side, height, (int) (x % (MOST_BACK + 1)));
                    }
                }
            }
            for (int one = 0; one < many; one++) {
                for (int behind = 0; behind < many; behind++) {
                    x = nextLot(x);
                    putWeight(one, behind, (int) (x % (MOST_WEIGHT + 1)));
                }
            }
        }

        private static long nextLot(long x) {
            return x * 16807 % 2147483647;
        }
    }

    /** The latest states ahead of changes, in a ring that is used again, so that no change makes objects. */
    private static final class Past {
        int many;
        private int next;
        private final Fount[] ring;

        Past() {
            ring = new Fount[MOST_UNDONE];
            for (int i = 0; i < MOST_UNDONE; i++) {
                ring[i] = new Fount();
            }
        }

        void remember(Fount fount) {
            ring[next].takeAll(fount);
            next = (next + 1) % MOST_UNDONE;
            many = Math.min(many + 1, MOST_UNDONE);
        }

        void giveBack(Fount fount) {
            next = (next + MOST_UNDONE - 1) % MOST_UNDONE;
            many = Math.max(many - 1, 0);
            fount.takeAll(ring[next]);
        }

        void forget() {
            many = 0;
        }
    }

    /**
     * The spaces of which the sum of squares is least. A space's number is its place in the order of the
     * document: right of all letters, then left of all letters. What is found is kept until a change.
     */
    private static final class Even {
        /** The column behind those of the spaces: what each row of them has to give. */
        private static final int GOAL = MOST_SPACES;

        private final Fount fount;
        private final long[][] rows;
        private final boolean[] open;
        /** 8 times each space, above; what is below is the same for all. */
        private final long[] eightfold;
        private long below;
        private final long[] whole;
        private final long[] rest;
        private boolean found;

        Even(Fount of) {
            fount = of;
            rows = new long[MOST_SPACES][MOST_SPACES + 1];
            open = new boolean[MOST_SPACES];
            eightfold = new long[MOST_SPACES];
            below = 1;
            whole = new long[MOST_SPACES];
            rest = new long[MOST_SPACES];
        }

        void forget() {
            found = false;
        }

        /** To be called ahead of any question about spaces and white; the questions rely on it. */
        void find() {
            if (found) {
                return;
            }
            writeRows();
            solveRows();
            makeWhole();
            found = true;
        }

        private int spaces() {
            return SIDES * fount.many;
        }

        private int numberOf(int letter, int side) {
            return side == RIGHT ? letter : fount.many + letter;
        }

        /** The sum is least where its slope by each space is 0: a row of whole numbers for each space. */
        private void writeRows() {
            for (int i = 0; i < MOST_SPACES; i++) {
                for (int j = 0; j <= GOAL; j++) {
                    rows[i][j] = 0;
                }
            }
            for (int one = 0; one < fount.many; one++) {
                for (int behind = 0; behind < fount.many; behind++) {
                    addPair(one, behind);
                }
            }
        }

        private void addPair(int one, int behind) {
            long weight = fount.weightOf(one, behind);
            long lack = weight * (fount.wanted - fount.bareOf(one, behind));
            int right = numberOf(one, RIGHT);
            int left = numberOf(behind, LEFT);
            rows[right][right] += weight;
            rows[right][left] += weight;
            rows[right][GOAL] += lack;
            rows[left][right] += weight;
            rows[left][left] += weight;
            rows[left][GOAL] += lack;
        }

        /**
         * Gauss and Jordan's way without fractions. The rows come of a sum of squares, so that what is left
         * in the diagonal is never below 0, and 0 just where the space hangs on those ahead of it: it is open.
         */
        private void solveRows() {
            below = 1;
            for (int k = 0; k < spaces(); k++) {
                open[k] = rows[k][k] <= 0;
                if (!open[k]) {
                    clearColumn(k);
                    below = rows[k][k];
                }
            }
            for (int k = 0; k < spaces(); k++) {
                eightfold[k] = open[k] ? 0 : rows[k][GOAL];
            }
        }

        /** All numbers stay minors of the first rows: the pivot ahead divides them without rest (Bareiss). */
        private void clearColumn(int k) {
            long pivot = rows[k][k];
            long ahead = Math.max(1, below);
            for (int i = 0; i < spaces(); i++) {
                if (i != k) {
                    long factor = rows[i][k];
                    for (int j = 0; j <= GOAL; j++) {
                        rows[i][j] = (pivot * rows[i][j] - factor * rows[k][j]) / ahead;
                    }
                }
            }
        }

        private void makeWhole() {
            long one = Math.max(1, HEIGHTS * below);
            long sum = 0;
            long wholeSum = 0;
            for (int k = 0; k < spaces(); k++) {
                whole[k] = Math.floorDiv(eightfold[k], one);
                rest[k] = Math.floorMod(eightfold[k], one);
                sum += eightfold[k];
                wholeSum += whole[k];
            }
            long lack = Math.floorDiv(2 * sum + one, 2 * one) - wholeSum;
            for (int times = 0; times < spaces() && times < lack; times++) {
                int k = firstOfGreatestRest();
                whole[k]++;
                // Below every rest, so that it is not taken twice.
                rest[k] = -1;
            }
        }

        private int firstOfGreatestRest() {
            int greatest = 0;
            for (int k = 1; k < spaces(); k++) {
                if (rest[k] > rest[greatest]) {
                    greatest = k;
                }
            }
            return greatest;
        }

        boolean isOpen(int letter, int side) {
            return open[numberOf(letter, side)];
        }

        int openSpaces() {
            int count = 0;
            for (int k = 0; k < spaces(); k++) {
                count += open[k] ? 1 : 0;
            }
            return count;
        }

        long spaceAbove(int letter, int side) {
            return eightfold[numberOf(letter, side)];
        }

        long spaceBelow() {
            return HEIGHTS * below;
        }

        long wholeSpace(int letter, int side) {
            return whole[numberOf(letter, side)];
        }

        long whiteAbove(int one, int behind) {
            return spaceAbove(one, RIGHT) + spaceAbove(behind, LEFT) + fount.bareOf(one, behind) * below;
        }

        long whiteBelow() {
            return below;
        }

        long leftOverAbove(int one, int behind) {
            return whiteAbove(one, behind) - fount.wanted * below;
        }

        long squaresAbove() {
            long sum = 0;
            for (int one = 0; one < fount.many; one++) {
                for (int behind = 0; behind < fount.many; behind++) {
                    long over = leftOverAbove(one, behind);
                    sum += fount.weightOf(one, behind) * over * over;
                }
            }
            return sum;
        }

        long squaresBelow() {
            return below * below;
        }

        int worst() {
            int worst = NONE;
            long farthest = NONE;
            for (int one = 0; one < fount.many; one++) {
                for (int behind = 0; behind < fount.many; behind++) {
                    long far = Math.abs(leftOverAbove(one, behind));
                    if (fount.weightOf(one, behind) > 0 && far > farthest) {
                        farthest = far;
                        worst = 10 * one + behind;
                    }
                }
            }
            return worst;
        }
    }

    /** Letters that stand together, set with the even spaces. */
    private static final class Line {
        int many;
        private final int[] places;
        private final Fount fount;
        private final Even even;
        private final Text text;

        Line(Fount of, Even by) {
            places = new int[MOST_IN_LINE];
            fount = of;
            even = by;
            text = new Text();
        }

        void makeEmpty() {
            many = 0;
        }

        void add(int letter) {
            if (many < places.length) {
                places[many] = letter;
                many++;
            }
        }

        int letterAt(int i) {
            return within(i, 0, many - 1) ? places[i] : NONE;
        }

        /** Of the fraction of which even.spaceBelow() is below. */
        long wideAbove() {
            long sum = 0;
            for (int i = 0; i < many; i++) {
                sum += fount.bodies[places[i]] * even.spaceBelow();
                sum += i > 0 ? even.spaceAbove(places[i], LEFT) : 0;
                sum += i < many - 1 ? even.spaceAbove(places[i], RIGHT) : 0;
            }
            return sum;
        }

        int thin() {
            int thinnest = NONE;
            long least = 0;
            for (int i = 0; i < many - 1; i++) {
                long white = even.whiteAbove(places[i], places[i + 1]);
                if (thinnest == NONE || white < least) {
                    thinnest = i;
                    least = white;
                }
            }
            return thinnest;
        }

        Text written() {
            text.makeEmpty();
            for (int i = 0; i < many; i++) {
                if (i > 0) {
                    text.addSign(signBetween(places[i - 1], places[i]));
                }
                text.addSign('a' + places[i]);
            }
            long above = wideAbove();
            text.addSign(':');
            text.addNumber(aboveOf(above, even.spaceBelow()));
            text.addSign('/');
            text.addNumber(belowOf(above, even.spaceBelow()));
            return text;
        }

        private int signBetween(int one, int behind) {
            long over = even.leftOverAbove(one, behind);
            if (over == 0) {
                return '=';
            }
            return over > 0 ? '+' : '-';
        }
    }

    /** A row of signs that is written again and again, so that no call makes objects. */
    private static final class Text {
        int many;
        private final int[] signs;

        Text() {
            signs = new int[MOST_SIGNS];
        }

        void makeEmpty() {
            many = 0;
        }

        void addSign(int sign) {
            if (many < signs.length) {
                signs[many] = sign;
                many++;
            }
        }

        void addNumber(long number) {
            if (number < 0) {
                addSign('-');
            }
            long left = Math.abs(number);
            long unit = 1;
            for (int k = 0; k < 18 && left / unit >= 10; k++) {
                unit *= 10;
            }
            for (int k = 0; k < 19 && unit > 0; k++) {
                addSign('0' + (int) (left / unit % 10));
                unit /= 10;
            }
        }

        int signAt(int i) {
            return within(i, 0, many - 1) ? signs[i] : NONE;
        }
    }
}
