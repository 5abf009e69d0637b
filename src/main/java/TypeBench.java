import java.util.Arrays;
import java.util.NoSuchElementException;

/**
 * Types that are made of one, sums and pairs and of free ones, made the same, looked through for
 * those that contain themselves, measured and compared.
 *
 * <p>Types that are the same just now share one leader, and only a leader's shape is ever read; the
 * parts of a leader are leaders, too. So two types are the same if their leaders are equal numbers,
 * and no call has to walk through a type twice, however often its parts stand in it.
 */
public final class TypeBench {
    private static final int MOST_TYPES = 1000;
    private static final int MOST_SIZE = 1000000;
    private static final int MOST_VALUES = 1 << 30;

    private static final int FREE = 0;
    private static final int ONE = 1;
    private static final int SUM = 2;
    private static final int PAIR = 3;

    private static final int NONE = -1;

    private static final int UNSEEN = 0;
    private static final int OPEN = 1;
    private static final int SEEN = 2;

    private int made;
    private final Shapes shapes;
    private final int[] leads;
    /** For a leader alone: the least number of the types that it leads. */
    private final int[] leasts;

    /** The leaders, parts before wholes, so that one pass measures all of them. */
    private final int[] order;
    private int different;

    // Rows for the length of one call, made once because all calls share one room.
    private final int[] link;
    private final int[] mark;
    private final Pile pile;
    private final int[] tried;
    private int triedCount;

    public TypeBench() {
        shapes = new Shapes();
        leads = new int[MOST_TYPES];
        leasts = new int[MOST_TYPES];
        order = new int[MOST_TYPES];
        link = new int[MOST_TYPES];
        mark = new int[MOST_TYPES];
        pile = new Pile();
        tried = new int[MOST_TYPES];
        begin();
    }

    public int free() throws IllegalStateException {
        int a = nextNumber();
        shapes.write(a, FREE, NONE, NONE);
        addLeader(a);
        return a;
    }

    public int sum(int a, int b) throws NoSuchElementException, IllegalStateException {
        return makeWhole(SUM, leaderOf(a), leaderOf(b));
    }

    public int pair(int a, int b) throws NoSuchElementException, IllegalStateException {
        return makeWhole(PAIR, leaderOf(a), leaderOf(b));
    }

    public boolean join(int a, int b) throws NoSuchElementException {
        int x = leaderOf(a);
        int y = leaderOf(b);
        if (x == y) {
            return true;
        }
        if (!tryToLink(x, y)) {
            return false;
        }
        keepLinks();
        return true;
    }

    public boolean alike(int a, int b) throws NoSuchElementException {
        int x = leaderOf(a);
        int y = leaderOf(b);
        return x == y || tryToLink(x, y);
    }

    public boolean same(int a, int b) throws NoSuchElementException {
        return leaderOf(a) == leaderOf(b);
    }

    public boolean renamed(int a, int b) throws NoSuchElementException {
        int x = leaderOf(a);
        int y = leaderOf(b);
        return matchAll(x, y);
    }

    public int kind(int a) throws NoSuchElementException {
        return shapes.kinds[leaderOf(a)];
    }

    public int part(int a, boolean second) throws NoSuchElementException {
        int x = leaderOf(a);
        if (!shapes.hasParts(x)) {
            throw new NoSuchElementException();
        }
        return leasts[second ? shapes.seconds[x] : shapes.firsts[x]];
    }

    public int size(int a) throws NoSuchElementException {
        int wanted = leaderOf(a);
        for (int i = 0; i < different; i++) {
            mark[order[i]] = sizeByParts(order[i]);
        }
        return mark[wanted];
    }

    public int values(int a) throws NoSuchElementException {
        int wanted = leaderOf(a);
        for (int i = 0; i < different; i++) {
            mark[order[i]] = valuesByParts(order[i]);
        }
        return mark[wanted];
    }

    public int frees(int a) throws NoSuchElementException {
        int wanted = leaderOf(a);
        Arrays.fill(mark, 0, made, UNSEEN);
        mark[wanted] = SEEN;
        int found = 0;
        for (int i = different - 1; i >= 0; i--) {
            int x = order[i];
            if (mark[x] == SEEN) {
                found += shapes.kinds[x] == FREE ? 1 : 0;
                markParts(x);
            }
        }
        return found;
    }

    public int clear() {
        int were = made;
        begin();
        return were;
    }

    public int count(int what) {
        switch (what) {
            case 0:
                return made;
            case 1:
                return different;
            case 2:
                return countFreeLeaders();
            default:
                return -1;
        }
    }

    private void begin() {
        made = 1;
        different = 0;
        shapes.forgetWholes();
        shapes.write(0, ONE, NONE, NONE);
        addLeader(0);
    }

    private int leaderOf(int a) {
        if (a < 0 || a >= made) {
            throw new NoSuchElementException();
        }
        return leads[a];
    }

    private int nextNumber() {
        if (made >= MOST_TYPES) {
            throw new IllegalStateException();
        }
        made++;
        return made - 1;
    }

    private void addLeader(int a) {
        leads[a] = a;
        leasts[a] = a;
        order[different] = a;
        different++;
    }

    private int makeWhole(int kind, int first, int second) {
        int a = nextNumber();
        shapes.write(a, kind, first, second);
        int twin = shapes.twinOf(a);
        if (twin == NONE) {
            shapes.enter(a);
            addLeader(a);
        } else {
            leads[a] = twin;
        }
        return a;
    }

    private int countFreeLeaders() {
        int found = 0;
        for (int i = 0; i < different; i++) {
            found += shapes.kinds[order[i]] == FREE ? 1 : 0;
        }
        return found;
    }

    private int sizeByParts(int x) {
        if (!shapes.hasParts(x)) {
            return 0;
        }
        int first = mark[shapes.firsts[x]];
        int second = mark[shapes.seconds[x]];
        int whole = shapes.kinds[x] == SUM ? 1 + Math.max(first, second) : first + second;
        return Math.min(whole, MOST_SIZE);
    }

    private int valuesByParts(int x) {
        if (!shapes.hasParts(x)) {
            return 1;
        }
        long first = mark[shapes.firsts[x]];
        long second = mark[shapes.seconds[x]];
        long whole = shapes.kinds[x] == SUM ? first + second : first * second;
        return (int) Math.min(whole, (long) MOST_VALUES);
    }

    private void markParts(int x) {
        if (shapes.hasParts(x)) {
            mark[shapes.firsts[x]] = SEEN;
            mark[shapes.seconds[x]] = SEEN;
        }
    }

    /** Works in link and tried alone, so that nothing has to be taken back if it can not be. */
    private boolean tryToLink(int x, int y) {
        return linkAll(x, y) && layOut();
    }

    private boolean linkAll(int x, int y) {
        System.arraycopy(leads, 0, link, 0, made);
        pile.startWith(x, y);
        // Each link makes one leader fewer and puts two couples: under twice as many as types.
        for (int steps = 0; steps < 2 * MOST_TYPES && pile.height > 0; steps++) {
            int right = root(pile.take());
            int left = root(pile.take());
            if (left != right && !linkTwo(left, right)) {
                return false;
            }
        }
        return true;
    }

    private boolean linkTwo(int x, int y) {
        if (shapes.kinds[x] == FREE) {
            link[x] = y;
            return true;
        }
        if (shapes.kinds[y] == FREE) {
            link[y] = x;
            return true;
        }
        if (shapes.kinds[x] != shapes.kinds[y]) {
            return false;
        }
        link[x] = y;
        putPartsOfBoth(x, y);
        return true;
    }

    private void putPartsOfBoth(int x, int y) {
        if (shapes.hasParts(x)) {
            pile.put(shapes.firsts[x]);
            pile.put(shapes.firsts[y]);
            pile.put(shapes.seconds[x]);
            pile.put(shapes.seconds[y]);
        }
    }

    /** Shortens the way as it goes, because long chains of links are walked again and again. */
    private int root(int a) {
        int x = a;
        for (int steps = 0; steps < MOST_TYPES && link[x] != x; steps++) {
            link[x] = link[link[x]];
            x = link[x];
        }
        return x;
    }

    /** Lays the roots of all links in tried, parts before wholes: false if one contains itself. */
    private boolean layOut() {
        Arrays.fill(mark, 0, made, UNSEEN);
        triedCount = 0;
        for (int a = 0; a < made; a++) {
            if (link[a] == a && mark[a] == UNSEEN && !layOutFrom(a)) {
                return false;
            }
        }
        return true;
    }

    private boolean layOutFrom(int a) {
        pile.height = 0;
        pile.put(a);
        // A step opens one of the types or takes one of the entries, two for each opened one.
        for (int steps = 0; steps < 4 * MOST_TYPES && pile.height > 0; steps++) {
            int x = pile.top();
            if (mark[x] == UNSEEN) {
                mark[x] = OPEN;
                if (!putUnseenParts(x)) {
                    return false;
                }
            } else {
                pile.take();
                layDown(x);
            }
        }
        return true;
    }

    private void layDown(int x) {
        if (mark[x] == OPEN) {
            mark[x] = SEEN;
            tried[triedCount] = x;
            triedCount++;
        }
    }

    private boolean putUnseenParts(int x) {
        return !shapes.hasParts(x)
                || putUnseen(root(shapes.firsts[x])) && putUnseen(root(shapes.seconds[x]));
    }

    /** An open type is one that holds what is looked at now: as a part it would contain itself. */
    private boolean putUnseen(int x) {
        if (mark[x] == UNSEEN) {
            pile.put(x);
        }
        return mark[x] != OPEN;
    }

    /** Links can make other types the same that merely hold linked ones: these are found here. */
    private void keepLinks() {
        shapes.forgetWholes();
        different = 0;
        for (int i = 0; i < triedCount; i++) {
            keepRoot(tried[i]);
        }
        for (int a = 0; a < made; a++) {
            leads[a] = root(a);
        }
        // Downwards, so that the least number is the one that stays.
        for (int a = made - 1; a >= 0; a--) {
            leasts[leads[a]] = a;
        }
    }

    private void keepRoot(int x) {
        if (shapes.hasParts(x)) {
            shapes.write(x, shapes.kinds[x], root(shapes.firsts[x]), root(shapes.seconds[x]));
            int twin = shapes.twinOf(x);
            if (twin != NONE) {
                link[x] = twin;
                return;
            }
            shapes.enter(x);
        }
        order[different] = x;
        different++;
    }

    /** Here link leads from a type of the first to its match in the second, and mark back. */
    private boolean matchAll(int x, int y) {
        Arrays.fill(link, 0, made, NONE);
        Arrays.fill(mark, 0, made, NONE);
        pile.startWith(x, y);
        // Each leader is matched once and puts two couples.
        for (int steps = 0; steps <= 2 * MOST_TYPES && pile.height > 0; steps++) {
            int right = pile.take();
            int left = pile.take();
            if (link[left] != right && !matchTwo(left, right)) {
                return false;
            }
        }
        return true;
    }

    private boolean matchTwo(int x, int y) {
        if (link[x] != NONE || mark[y] != NONE || shapes.kinds[x] != shapes.kinds[y]) {
            return false;
        }
        link[x] = y;
        mark[y] = x;
        putPartsOfBoth(x, y);
        return true;
    }

    /** What each leader is, with the sums and pairs kept in slots, to find the same one again. */
    private static final class Shapes {
        private static final int SLOTS = 251;

        private final int[] kinds;
        private final int[] firsts;
        private final int[] seconds;
        private final int[] heads;
        private final int[] nexts;

        private Shapes() {
            kinds = new int[MOST_TYPES];
            firsts = new int[MOST_TYPES];
            seconds = new int[MOST_TYPES];
            heads = new int[SLOTS];
            nexts = new int[MOST_TYPES];
        }

        private void write(int a, int kind, int first, int second) {
            kinds[a] = kind;
            firsts[a] = first;
            seconds[a] = second;
        }

        private boolean hasParts(int a) {
            return kinds[a] == SUM || kinds[a] == PAIR;
        }

        private void forgetWholes() {
            Arrays.fill(heads, NONE);
        }

        private void enter(int a) {
            int slot = slotOf(a);
            nexts[a] = heads[slot];
            heads[slot] = a;
        }

        private int twinOf(int a) {
            int x = heads[slotOf(a)];
            for (int steps = 0; steps < MOST_TYPES && x != NONE; steps++) {
                if (equalShapes(x, a)) {
                    return x;
                }
                x = nexts[x];
            }
            return NONE;
        }

        private boolean equalShapes(int a, int b) {
            return kinds[a] == kinds[b] && firsts[a] == firsts[b] && seconds[a] == seconds[b];
        }

        private int slotOf(int a) {
            return ((firsts[a] * 31 + seconds[a]) * 2 + kinds[a]) % SLOTS;
        }
    }

    /** What a walk still has to look at. */
    private static final class Pile {
        private final int[] row;
        private int height;

        private Pile() {
            // Both walks put two for each type at most, beyond the one or two that they start with.
            row = new int[2 * MOST_TYPES + 2];
        }

        private void startWith(int x, int y) {
            row[0] = x;
            row[1] = y;
            height = 2;
        }

        private void put(int x) {
            row[height] = x;
            height++;
        }

        private int take() {
            height--;
            return row[height];
        }

        private int top() {
            return row[height - 1];
        }
    }
}
