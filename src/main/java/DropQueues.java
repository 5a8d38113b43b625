import java.util.Arrays;

/** Queues that steer by difference; ../shared/DOC.md says what each call promises. */
public final class DropQueues {
    public static final int BAD = -1, NO = -2, FULL = -3, NONE = -4;

    private static final int MOST_NODES = 6;
    private static final int MOST_GOALS = 3;
    private static final int MOST_LINKS = 10;
    private static final int MOST_ROOM = 9;
    private static final int MOST_FEED = 9;
    private static final int MOST_B = 9;
    private static final int MOST_PACKETS = 40;
    private static final int MOST_QUEUES = MOST_NODES * MOST_GOALS;
    private static final int MOST_LETTERS = 200;
    private static final int MOST_NUMBERS = 3;
    private static final int MOST_SLOTS = 60;
    private static final int MOST_UNDONE = 4;
    private static final int MOST_Z = 9999;
    private static final int SLOTS_WITHOUT = 20;
    private static final int LAST = 1;
    /** Hops where no LINKS lead to the GOAL: above every real way, and just what BIAS asks there. */
    private static final int NO_WAY = 9;
    private static final int NO_LINKS = 0;
    private static final String FIRST_TEXT =
        "n5;g4;g2;l0,1,3;l1,4,2;l0,3,2;l3,4,2;l1,2,1;l3,2,2;l2,4,1;x0,2;x1,3;x4,5;f0,0,2;f0,1,1;f3,1,1;b1;";

    private final Text text = new Text();
    private final World now = new World();
    /** What is tried without a change; made once, since a run's calls share one room. */
    private final World trial = new World();
    private final History history = new History();
    private final Picker picker = new Picker();
    private final Mover mover = new Mover();

    public DropQueues() {
        for (int k = 0; k < FIRST_TEXT.length(); k++) {
            text.append(FIRST_TEXT.charAt(k));
        }
        layText();
        text.length = 0;
    }

    // ---- told

    public int write(int letter) {
        if (!within(letter, 32, 126)) {
            return BAD;
        }
        if (text.length >= MOST_LETTERS) {
            return FULL;
        }
        text.append((char) letter);
        return text.length;
    }

    public int wipe() {
        int was = text.length;
        text.length = 0;
        return was;
    }

    public int fault() {
        return text.readInto(trial.net);
    }

    public int lay() {
        return layText() ? now.net.nodes : NO;
    }

    // ---- told anew

    public int feed(int i, int g, int f) {
        if (!now.net.hasQueue(i, g) || !within(f, 0, MOST_FEED)) {
            return BAD;
        }
        int was = now.net.feeds[spot(i, g)];
        if (was == f) {
            return NO;
        }
        history.keep(now);
        now.net.feeds[spot(i, g)] = f;
        return was;
    }

    public int room(int l, int r) {
        if (!now.net.hasLink(l) || !within(r, 1, MOST_ROOM)) {
            return BAD;
        }
        int was = now.net.rooms[l];
        if (was == r) {
            return NO;
        }
        history.keep(now);
        now.net.rooms[l] = r;
        return was;
    }

    public int tell(int what, int v) {
        if (what == 0) {
            return tellLaw(v);
        }
        if (what == 1) {
            return tellB(v);
        }
        return BAD;
    }

    public int clash(int a, int b, int is) {
        if (!now.net.hasLink(a) || !now.net.hasLink(b) || a == b || !within(is, 0, 1)) {
            return BAD;
        }
        if (now.net.doClash(a, b) == (is == 1)) {
            return NO;
        }
        history.keep(now);
        now.net.turnClash(a, b);
        return now.net.pairs();
    }

    // ---- packets

    public int put(int i, int g, int n) {
        if (!now.net.hasQueue(i, g) || !within(n, 1, MOST_PACKETS)) {
            return BAD;
        }
        int q = spot(i, g);
        if (now.queues.sizes[q] + n > MOST_PACKETS) {
            return FULL;
        }
        history.keep(now);
        now.queues.addMany(q, n, now.queues.slots);
        return now.queues.sizes[q];
    }

    public int slot(int n) {
        if (!within(n, 1, MOST_SLOTS)) {
            return BAD;
        }
        history.keep(now);
        int before = now.queues.thereInAll();
        for (int k = 0; k < n; k++) {
            mover.move(now, NO_LINKS, now.net.feeds);
        }
        return now.queues.thereInAll() - before;
    }

    public int undo() {
        if (history.kept == 0) {
            return NO;
        }
        history.giveBack(now);
        return history.kept;
    }

    // ---- queues and links

    public int queue(int i, int g, int what) {
        if (!now.net.hasQueue(i, g) || !within(what, 0, 3)) {
            return BAD;
        }
        int q = spot(i, g);
        switch (what) {
            case 0:
                return now.queues.sizes[q];
            case 1:
                return now.queues.nextBorn(q, now.net.law);
            case 2:
                return now.net.feeds[q];
            default:
                return now.net.biasAt(q);
        }
    }

    public int link(int l, int what) {
        if (!now.net.hasLink(l) || !within(what, 0, 6)) {
            return BAD;
        }
        switch (what) {
            case 0:
                return now.net.firsts[l];
            case 1:
                return now.net.seconds[l];
            case 2:
                return now.net.rooms[l];
            case 6:
                return now.net.clashes[l];
            default:
                return linkAsQueuesAre(l, what);
        }
    }

    public int drop(int l, int g) {
        if (!now.net.hasLink(l) || !now.net.hasGoal(g)) {
            return BAD;
        }
        return now.dropOf(l, g) + 1000;
    }

    public int goes(int what) {
        if (!within(what, 0, 1)) {
            return BAD;
        }
        picker.weigh(now);
        picker.pick(now.net, NO_LINKS);
        return what == 0 ? picker.bestSet : picker.bestWeight;
    }

    public int goal(int g, int what) {
        if (!now.net.hasGoal(g) || !within(what, 0, 4)) {
            return BAD;
        }
        switch (what) {
            case 0:
                return now.net.goalNodes[g];
            case 1:
                return now.queues.there[g];
            case 2:
                return now.queues.delays[g];
            case 3:
                return now.queues.there[g] == 0 ? NONE : now.queues.longest[g];
            default:
                return now.queues.packetsFor(g);
        }
    }

    // ---- ahead

    public int ahead(int n, int what) {
        if (!within(n, 1, MOST_SLOTS) || !within(what, 0, 3)) {
            return BAD;
        }
        trial.copyFrom(now);
        int most = 0;
        for (int k = 0; k < n; k++) {
            mover.move(trial, NO_LINKS, trial.net.feeds);
            most = Math.max(most, trial.queues.squares());
        }
        return what == 3 ? most : trialSince(what);
    }

    public int without(int l) {
        if (!now.net.hasLink(l)) {
            return BAD;
        }
        trial.copyFrom(now);
        for (int k = 0; k < SLOTS_WITHOUT; k++) {
            mover.move(trial, 1 << l, trial.net.feeds);
        }
        return trial.queues.packets();
    }

    public int worst(int what) {
        if (!within(what, 0, 2)) {
            return BAD;
        }
        picker.weigh(now);
        picker.pick(now.net, NO_LINKS);
        int weight = picker.bestWeight;
        int lower = NONE;
        int other = NONE;
        trial.net.copyFrom(now.net);
        for (int a = 0; a < now.net.links; a++) {
            for (int b = a + 1; b < now.net.links; b++) {
                if (now.net.doClash(a, b) && weightWithout(a, b) > weight) {
                    weight = picker.bestWeight;
                    lower = a;
                    other = b;
                }
            }
        }
        if (lower == NONE) {
            return NONE;
        }
        return what == 0 ? lower : what == 1 ? other : weight;
    }

    public int drawn(int z, int n, int what) {
        if (!within(z, 0, MOST_Z) || !within(n, 1, MOST_SLOTS) || !within(what, 0, 2)) {
            return BAD;
        }
        trial.copyFrom(now);
        for (int k = 0; k < n; k++) {
            mover.drawFeeds(trial.net, z, k);
            mover.move(trial, NO_LINKS, mover.drawnFeeds);
        }
        return trialSince(what);
    }

    public int count(int what) {
        switch (what) {
            case 0:
                return now.net.nodes;
            case 1:
                return now.net.goals;
            case 2:
                return now.net.links;
            case 3:
                return now.net.pairs();
            case 4:
                return now.net.law;
            case 5:
                return now.net.b;
            case 11:
                return history.kept;
            case 12:
                return text.length;
            default:
                return countPackets(what);
        }
    }

    private boolean layText() {
        if (text.readInto(trial.net) != NONE || trial.net.goals == 0) {
            return false;
        }
        now.net.copyFrom(trial.net);
        now.net.findHops();
        now.queues.clear();
        history.clear();
        return true;
    }

    private int tellLaw(int law) {
        if (!within(law, 0, LAST)) {
            return BAD;
        }
        int was = now.net.law;
        if (was == law) {
            return NO;
        }
        history.keep(now);
        now.net.law = law;
        return was;
    }

    private int tellB(int b) {
        if (!within(b, 0, MOST_B)) {
            return BAD;
        }
        int was = now.net.b;
        if (was == b) {
            return NO;
        }
        history.keep(now);
        now.net.b = b;
        return was;
    }

    private int linkAsQueuesAre(int l, int what) {
        picker.weigh(now);
        if (what == 3) {
            return picker.choices[l];
        }
        if (what == 4) {
            return picker.weights[l];
        }
        picker.pick(now.net, NO_LINKS);
        return (picker.bestSet >> l) & 1;
    }

    /** The picker must have weighed the LINKS: a CLASH changes no WEIGHT of a single LINK. */
    private int weightWithout(int a, int b) {
        trial.net.turnClash(a, b);
        picker.pick(trial.net, NO_LINKS);
        trial.net.turnClash(a, b);
        return picker.bestWeight;
    }

    private int trialSince(int what) {
        if (what == 0) {
            return trial.queues.packets();
        }
        if (what == 1) {
            return trial.queues.thereInAll() - now.queues.thereInAll();
        }
        return trial.queues.lost - now.queues.lost;
    }

    private int countPackets(int what) {
        switch (what) {
            case 6:
                return now.queues.slots;
            case 7:
                return now.queues.packets();
            case 8:
                return now.queues.thereInAll();
            case 9:
                return now.queues.lost;
            case 10:
                return now.queues.squares();
            default:
                return BAD;
        }
    }

    private static boolean within(int value, int least, int most) {
        return value >= least && value <= most;
    }

    /** Where the QUEUE of a NODE for a GOAL stands in rows that hold one value for each QUEUE. */
    private static int spot(int i, int g) {
        return i * MOST_GOALS + g;
    }

    /** THE TEXT, and how it is read. */
    private static final class Text {
        int length;
        private final char[] letters = new char[MOST_LETTERS];
        private final int[] numbers = new int[MOST_NUMBERS];

        void append(char letter) {
            if (length < MOST_LETTERS) {
                letters[length] = letter;
                length++;
            }
        }

        /** Answers the FAULT, or NONE; with a FAULT the net holds the ITEMS ahead of it alone. */
        int readInto(Net net) {
            net.clear();
            int first = 0;
            for (int k = 0; k < length; k++) {
                if (letters[k] == ';') {
                    if (!readItem(net, first, k)) {
                        return first;
                    }
                    first = k + 1;
                }
            }
            return first < length ? first : NONE;
        }

        private boolean readItem(Net net, int first, int end) {
            int wanted = numbersOf(letters[first]);
            if (wanted == 0 || readNumbers(first + 1, end) != wanted) {
                return false;
            }
            return net.takeItem(letters[first], numbers[0], numbers[1], numbers[2]);
        }

        private static int numbersOf(int kind) {
            switch (kind) {
                case 'n':
                case 'g':
                case 'b':
                case 'o':
                    return 1;
                case 'x':
                    return 2;
                case 'l':
                case 'f':
                    return 3;
                default:
                    return 0;
            }
        }

        /** Answers how many numbers stand from there up to the ; at the end, 0 if anything else does. */
        private int readNumbers(int from, int end) {
            int read = 0;
            int figures = 0;
            int value = 0;
            for (int k = from; k <= end; k++) {
                char c = letters[k];
                if (c >= '0' && c <= '9' && figures < 2) {
                    value = value * 10 + (c - '0');
                    figures++;
                } else if ((c == ',' || c == ';') && figures > 0 && read < MOST_NUMBERS) {
                    numbers[read] = value;
                    read++;
                    value = 0;
                    figures = 0;
                } else {
                    return 0;
                }
            }
            return read;
        }
    }

    /** What a TEXT tells. */
    private static final class Net {
        int nodes;
        int goals;
        int links;
        int law;
        int b;
        final int[] goalNodes = new int[MOST_GOALS];
        final int[] firsts = new int[MOST_LINKS];
        final int[] seconds = new int[MOST_LINKS];
        final int[] rooms = new int[MOST_LINKS];
        final int[] clashes = new int[MOST_LINKS];
        final int[] feeds = new int[MOST_QUEUES];
        private final int[] hops = new int[MOST_QUEUES];

        void clear() {
            nodes = 0;
            goals = 0;
            links = 0;
            law = 0;
            b = 0;
            Arrays.fill(clashes, 0);
            Arrays.fill(feeds, 0);
        }

        void copyFrom(Net other) {
            nodes = other.nodes;
            goals = other.goals;
            links = other.links;
            law = other.law;
            b = other.b;
            System.arraycopy(other.goalNodes, 0, goalNodes, 0, MOST_GOALS);
            System.arraycopy(other.firsts, 0, firsts, 0, MOST_LINKS);
            System.arraycopy(other.seconds, 0, seconds, 0, MOST_LINKS);
            System.arraycopy(other.rooms, 0, rooms, 0, MOST_LINKS);
            System.arraycopy(other.clashes, 0, clashes, 0, MOST_LINKS);
            System.arraycopy(other.feeds, 0, feeds, 0, MOST_QUEUES);
            System.arraycopy(other.hops, 0, hops, 0, MOST_QUEUES);
        }

        boolean hasNode(int i) {
            return i >= 0 && i < nodes;
        }

        boolean hasGoal(int g) {
            return g >= 0 && g < goals;
        }

        boolean hasLink(int l) {
            return l >= 0 && l < links;
        }

        boolean hasQueue(int i, int g) {
            return hasNode(i) && hasGoal(g) && goalNodes[g] != i;
        }

        boolean doClash(int a, int c) {
            return (clashes[a] >> c & 1) == 1;
        }

        void turnClash(int a, int c) {
            clashes[a] ^= 1 << c;
            clashes[c] ^= 1 << a;
        }

        int pairs() {
            int ends = 0;
            for (int l = 0; l < links; l++) {
                ends += Integer.bitCount(clashes[l]);
            }
            return ends / 2;
        }

        int biasAt(int q) {
            return b * hops[q];
        }

        /** Answers whether the ITEM is so; else nothing is taken. */
        boolean takeItem(int kind, int u, int v, int w) {
            if ((kind == 'n') != (nodes == 0)) {
                return false;
            }
            switch (kind) {
                case 'n':
                    return takeNodes(u);
                case 'g':
                    return takeGoal(u);
                case 'l':
                    return takeLink(u, v, w);
                case 'x':
                    return takeClash(u, v);
                case 'f':
                    return takeFeed(u, v, w);
                case 'b':
                    return takeB(u);
                default:
                    return takeLaw(u);
            }
        }

        /** Each round carries the ways one LINK farther; no shortest way has as many LINKS as there are NODES. */
        void findHops() {
            Arrays.fill(hops, NO_WAY);
            for (int g = 0; g < goals; g++) {
                hops[spot(goalNodes[g], g)] = 0;
                for (int round = 1; round < nodes; round++) {
                    shortenWays(g);
                }
            }
        }

        private void shortenWays(int g) {
            for (int l = 0; l < links; l++) {
                int here = spot(firsts[l], g);
                hops[here] = Math.min(hops[here], hops[spot(seconds[l], g)] + 1);
            }
        }

        private boolean takeNodes(int n) {
            if (!within(n, 2, MOST_NODES)) {
                return false;
            }
            nodes = n;
            return true;
        }

        private boolean takeGoal(int i) {
            if (!hasNode(i) || goals >= MOST_GOALS) {
                return false;
            }
            for (int g = 0; g < goals; g++) {
                if (goalNodes[g] == i) {
                    return false;
                }
            }
            goalNodes[goals] = i;
            goals++;
            return true;
        }

        private boolean takeLink(int i, int j, int r) {
            if (!hasNode(i) || !hasNode(j) || i == j || !within(r, 1, MOST_ROOM) || links >= MOST_LINKS) {
                return false;
            }
            firsts[links] = i;
            seconds[links] = j;
            rooms[links] = r;
            links++;
            return true;
        }

        private boolean takeClash(int a, int c) {
            if (!hasLink(a) || !hasLink(c) || a == c) {
                return false;
            }
            if (!doClash(a, c)) {
                turnClash(a, c);
            }
            return true;
        }

        private boolean takeFeed(int i, int g, int f) {
            if (!hasQueue(i, g) || !within(f, 0, MOST_FEED)) {
                return false;
            }
            feeds[spot(i, g)] = f;
            return true;
        }

        private boolean takeB(int value) {
            if (!within(value, 0, MOST_B)) {
                return false;
            }
            b = value;
            return true;
        }

        private boolean takeLaw(int value) {
            if (!within(value, 0, LAST)) {
                return false;
            }
            law = value;
            return true;
        }
    }

    /** The packets, and what became of those that left. */
    private static final class Queues {
        int slots;
        int lost;
        final int[] there = new int[MOST_GOALS];
        final int[] delays = new int[MOST_GOALS];
        final int[] longest = new int[MOST_GOALS];
        final int[] sizes = new int[MOST_QUEUES];
        /** Each QUEUE is a ring in this row, so that packets can leave at both ends without a shift. */
        private final int[] born = new int[MOST_QUEUES * MOST_PACKETS];
        private final int[] heads = new int[MOST_QUEUES];

        void clear() {
            slots = 0;
            lost = 0;
            Arrays.fill(there, 0);
            Arrays.fill(delays, 0);
            Arrays.fill(longest, 0);
            Arrays.fill(sizes, 0);
            Arrays.fill(heads, 0);
        }

        void copyFrom(Queues other) {
            slots = other.slots;
            lost = other.lost;
            System.arraycopy(other.there, 0, there, 0, MOST_GOALS);
            System.arraycopy(other.delays, 0, delays, 0, MOST_GOALS);
            System.arraycopy(other.longest, 0, longest, 0, MOST_GOALS);
            System.arraycopy(other.sizes, 0, sizes, 0, MOST_QUEUES);
            System.arraycopy(other.born, 0, born, 0, MOST_QUEUES * MOST_PACKETS);
            System.arraycopy(other.heads, 0, heads, 0, MOST_QUEUES);
        }

        void addOne(int q, int bornIn) {
            if (sizes[q] >= MOST_PACKETS) {
                lost++;
                return;
            }
            born[placeOf(q, sizes[q])] = bornIn;
            sizes[q]++;
        }

        void addMany(int q, int n, int bornIn) {
            for (int k = 0; k < n; k++) {
                addOne(q, bornIn);
            }
        }

        int nextBorn(int q, int law) {
            if (sizes[q] == 0) {
                return NONE;
            }
            return born[placeOf(q, law == LAST ? sizes[q] - 1 : 0)];
        }

        /** Answers the SLOT in which the packet was BORN; NONE if the QUEUE is empty. */
        int takeOne(int q, int law) {
            int bornIn = nextBorn(q, law);
            if (sizes[q] > 0) {
                sizes[q]--;
                heads[q] = law == LAST ? heads[q] : (heads[q] + 1) % MOST_PACKETS;
            }
            return bornIn;
        }

        void arrive(int g, int bornIn) {
            int delay = slots - bornIn;
            there[g]++;
            delays[g] += delay;
            longest[g] = Math.max(longest[g], delay);
        }

        int thereInAll() {
            int sum = 0;
            for (int g = 0; g < MOST_GOALS; g++) {
                sum += there[g];
            }
            return sum;
        }

        int packetsFor(int g) {
            int sum = 0;
            for (int i = 0; i < MOST_NODES; i++) {
                sum += sizes[spot(i, g)];
            }
            return sum;
        }

        int packets() {
            int sum = 0;
            for (int q = 0; q < MOST_QUEUES; q++) {
                sum += sizes[q];
            }
            return sum;
        }

        int squares() {
            int sum = 0;
            for (int q = 0; q < MOST_QUEUES; q++) {
                sum += sizes[q] * sizes[q];
            }
            return sum;
        }

        private int placeOf(int q, int k) {
            return q * MOST_PACKETS + (heads[q] + k) % MOST_PACKETS;
        }
    }

    /** All that a change changes. */
    private static final class World {
        final Net net = new Net();
        final Queues queues = new Queues();

        void copyFrom(World other) {
            net.copyFrom(other.net);
            queues.copyFrom(other.queues);
        }

        int dropOf(int l, int g) {
            int here = spot(net.firsts[l], g);
            int there = spot(net.seconds[l], g);
            return queues.sizes[here] + net.biasAt(here) - queues.sizes[there] - net.biasAt(there);
        }
    }

    /** What stood ahead of the last changes; the rows are a ring and are used again. */
    private static final class History {
        int kept;
        private int next;
        private final World[] worlds = new World[MOST_UNDONE];

        History() {
            for (int k = 0; k < MOST_UNDONE; k++) {
                worlds[k] = new World();
            }
        }

        void clear() {
            kept = 0;
        }

        void keep(World now) {
            worlds[next].copyFrom(now);
            next = (next + 1) % MOST_UNDONE;
            kept = Math.min(kept + 1, MOST_UNDONE);
        }

        void giveBack(World now) {
            if (kept > 0) {
                kept--;
                next = (next + MOST_UNDONE - 1) % MOST_UNDONE;
                now.copyFrom(worlds[next]);
            }
        }
    }

    /** CHOICES, WEIGHTS and THE LINKS that go. */
    private static final class Picker {
        int bestSet;
        int bestWeight;
        final int[] choices = new int[MOST_LINKS];
        final int[] weights = new int[MOST_LINKS];

        void weigh(World world) {
            for (int l = 0; l < world.net.links; l++) {
                int g = choiceOf(world, l);
                choices[l] = g;
                weights[l] = g == NONE ? 0 : world.net.rooms[l] * world.dropOf(l, g);
            }
        }

        /** The LINKS must have been weighed; those barred (as bits) do not go. */
        void pick(Net net, int barred) {
            int open = 0;
            for (int l = 0; l < net.links; l++) {
                if (choices[l] != NONE) {
                    open |= 1 << l;
                }
            }
            bestSet = 0;
            bestWeight = 0;
            search(this, net, 0, open & ~barred, 0, 0);
        }

        private static int choiceOf(World world, int l) {
            int choice = NONE;
            int greatest = 0;
            for (int g = 0; g < world.net.goals; g++) {
                if (world.queues.sizes[spot(world.net.firsts[l], g)] > 0 && world.dropOf(l, g) > greatest) {
                    choice = g;
                    greatest = world.dropOf(l, g);
                }
            }
            return choice;
        }

        /** Open are the LINKS, as bits, from l on that may still join those chosen. */
        private static void search(Picker picker, Net net, int l, int open, int chosen, int weight) {
            if (weight + picker.weightOf(open) < picker.bestWeight) {
                return;
            }
            if (l >= net.links || l >= MOST_LINKS) {
                picker.offer(chosen, weight);
                return;
            }
            int bit = 1 << l;
            int rest = open & ~bit;
            boolean isOpen = rest != open;
            if (isOpen) {
                search(picker, net, l + 1, rest & ~net.clashes[l], chosen | bit, weight + picker.weights[l]);
            }
            // Every open LINK weighs something: to leave one out helps only where it bars another one.
            if (!isOpen || (rest & net.clashes[l]) != 0) {
                search(picker, net, l + 1, rest, chosen, weight);
            }
        }

        private int weightOf(int set) {
            int sum = 0;
            for (int l = 0; l < MOST_LINKS; l++) {
                if ((set >> l & 1) == 1) {
                    sum += weights[l];
                }
            }
            return sum;
        }

        private void offer(int set, int weight) {
            if (weight > bestWeight || weight == bestWeight && comesAhead(set, bestSet)) {
                bestSet = set;
                bestWeight = weight;
            }
        }

        private static boolean comesAhead(int set, int other) {
            int more = Integer.bitCount(set) - Integer.bitCount(other);
            return more < 0 || more == 0 && set < other;
        }
    }

    /** Does SLOTS. */
    private static final class Mover {
        final int[] drawnFeeds = new int[MOST_QUEUES];
        private final Picker picker = new Picker();
        private final int[] taken = new int[MOST_LINKS];
        private final int[] underWay = new int[MOST_LINKS * MOST_ROOM];

        void move(World world, int barred, int[] feeds) {
            picker.weigh(world);
            picker.pick(world.net, barred);
            world.queues.slots++;
            for (int l = 0; l < world.net.links; l++) {
                takeOver(world, l);
            }
            for (int l = 0; l < world.net.links; l++) {
                bring(world, l);
            }
            bringFeeds(world, feeds);
        }

        void drawFeeds(Net net, int z, int k) {
            for (int i = 0; i < net.nodes; i++) {
                long x = 7919L * z + 6151L * k + 97L * i + 1;
                int draw = (int) (x * x % 65521);
                for (int g = 0; g < net.goals; g++) {
                    int q = spot(i, g);
                    drawnFeeds[q] = (draw >> 3 * g) % (2 * net.feeds[q] + 1);
                }
            }
        }

        private void takeOver(World world, int l) {
            taken[l] = 0;
            if ((picker.bestSet >> l & 1) == 0) {
                return;
            }
            int q = spot(world.net.firsts[l], picker.choices[l]);
            taken[l] = Math.min(world.net.rooms[l], world.queues.sizes[q]);
            for (int k = 0; k < taken[l]; k++) {
                underWay[l * MOST_ROOM + k] = world.queues.takeOne(q, world.net.law);
            }
        }

        private void bring(World world, int l) {
            if (taken[l] == 0) {
                return;
            }
            int g = picker.choices[l];
            int node = world.net.seconds[l];
            boolean isThere = world.net.goalNodes[g] == node;
            for (int k = 0; k < taken[l]; k++) {
                int bornIn = underWay[l * MOST_ROOM + k];
                if (isThere) {
                    world.queues.arrive(g, bornIn);
                } else {
                    world.queues.addOne(spot(node, g), bornIn);
                }
            }
        }

        private static void bringFeeds(World world, int[] feeds) {
            for (int i = 0; i < world.net.nodes; i++) {
                for (int g = 0; g < world.net.goals; g++) {
                    int q = spot(i, g);
                    world.queues.addMany(q, feeds[q], world.queues.slots);
                }
            }
        }
    }
}
