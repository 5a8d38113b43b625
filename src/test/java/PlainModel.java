import java.util.ArrayDeque;
import java.util.ArrayList;
import java.util.Deque;
import java.util.List;
import java.util.regex.Matcher;
import java.util.regex.Pattern;

/** The document told a second time, in the plainest way and without a thought of speed or room. */
final class PlainModel {
    static final int BAD = -1, NO = -2, FULL = -3, NONE = -4;
    private static final String FIRST =
        "n5;g4;g2;l0,1,3;l1,4,2;l0,3,2;l3,4,2;l1,2,1;l3,2,2;l2,4,1;x0,2;x1,3;x4,5;f0,0,2;f0,1,1;f3,1,1;b1;";
    private static final Pattern ITEM = Pattern.compile(
        "([ngbo])(\\d\\d?);|(x)(\\d\\d?),(\\d\\d?);|([lf])(\\d\\d?),(\\d\\d?),(\\d\\d?);");

    private static final class Link {
        int from, to, room;
    }

    private static final class State {
        int nodes, law, b, slots, lost;
        List<Integer> goals = new ArrayList<>();
        List<Link> links = new ArrayList<>();
        boolean[][] clash = new boolean[10][10];
        int[][] feed = new int[6][3];
        List<List<List<Integer>>> queues = new ArrayList<>();
        List<List<Integer>> delays = new ArrayList<>();

        State() {
            for (int i = 0; i < 6; i++) {
                queues.add(new ArrayList<>());
                for (int g = 0; g < 3; g++) {
                    queues.get(i).add(new ArrayList<>());
                }
            }
            for (int g = 0; g < 3; g++) {
                delays.add(new ArrayList<>());
            }
        }

        State copy() {
            State s = new State();
            s.nodes = nodes;
            s.law = law;
            s.b = b;
            s.slots = slots;
            s.lost = lost;
            s.goals.addAll(goals);
            for (Link l : links) {
                Link m = new Link();
                m.from = l.from;
                m.to = l.to;
                m.room = l.room;
                s.links.add(m);
            }
            for (int a = 0; a < 10; a++) {
                s.clash[a] = clash[a].clone();
            }
            for (int i = 0; i < 6; i++) {
                s.feed[i] = feed[i].clone();
                for (int g = 0; g < 3; g++) {
                    s.queues.get(i).get(g).addAll(queues.get(i).get(g));
                }
            }
            for (int g = 0; g < 3; g++) {
                s.delays.get(g).addAll(delays.get(g));
            }
            return s;
        }

        List<Integer> q(int i, int g) {
            return queues.get(i).get(g);
        }

        boolean node(int i) {
            return 0 <= i && i < nodes;
        }

        boolean goal(int g) {
            return 0 <= g && g < goals.size();
        }

        boolean link(int l) {
            return 0 <= l && l < links.size();
        }

        boolean queueAt(int i, int g) {
            return node(i) && goal(g) && goals.get(g) != i;
        }

        int bias(int i, int g) {
            int target = goals.get(g);
            List<Integer> reached = new ArrayList<>();
            reached.add(i);
            for (int steps = 0; steps < 9; steps++) {
                if (reached.contains(target)) {
                    return b * steps;
                }
                List<Integer> further = new ArrayList<>();
                for (Link l : links) {
                    if (reached.contains(l.from)) {
                        further.add(l.to);
                    }
                }
                reached = further;
            }
            return 9 * b;
        }

        int drop(int l, int g) {
            int i = links.get(l).from;
            int j = links.get(l).to;
            return q(i, g).size() + bias(i, g) - (q(j, g).size() + bias(j, g));
        }

        int choice(int l) {
            int best = NONE;
            for (int g = 0; g < goals.size(); g++) {
                if (!q(links.get(l).from, g).isEmpty() && (best == NONE || drop(l, g) > drop(l, best))) {
                    best = g;
                }
            }
            return best == NONE || drop(l, best) <= 0 ? NONE : best;
        }

        int weight(int l) {
            int g = choice(l);
            return g == NONE ? 0 : links.get(l).room * drop(l, g);
        }

        boolean mayGo(int set, int barred, boolean[] hasChoice) {
            for (int a = 0; a < links.size(); a++) {
                if ((set >> a & 1) == 1) {
                    if (a == barred || !hasChoice[a]) {
                        return false;
                    }
                    for (int c = 0; c < links.size(); c++) {
                        if ((set >> c & 1) == 1 && clash[a][c]) {
                            return false;
                        }
                    }
                }
            }
            return true;
        }

        /** The set, and its WEIGHT together. */
        int[] goes(int barred) {
            int n = links.size();
            boolean[] hasChoice = new boolean[n];
            int[] weights = new int[n];
            for (int l = 0; l < n; l++) {
                hasChoice[l] = choice(l) != NONE;
                weights[l] = weight(l);
            }
            int best = 0;
            int bestWeight = 0;
            for (int set = 1; set < 1 << n; set++) {
                if (mayGo(set, barred, hasChoice)) {
                    int sum = 0;
                    for (int l = 0; l < n; l++) {
                        sum += (set >> l & 1) * weights[l];
                    }
                    if (sum > bestWeight || sum == bestWeight && Integer.bitCount(set) < Integer.bitCount(best)) {
                        best = set;
                        bestWeight = sum;
                    }
                }
            }
            return new int[] {best, bestWeight};
        }

        void enter(int i, int g, int born) {
            if (goals.get(g) == i) {
                delays.get(g).add(slots - born);
            } else if (q(i, g).size() == 40) {
                lost++;
            } else {
                q(i, g).add(born);
            }
        }

        void slot(int barred, int[][] feeds) {
            int set = goes(barred)[0];
            int[] chosen = new int[links.size()];
            for (int l = 0; l < links.size(); l++) {
                chosen[l] = choice(l);
            }
            slots++;
            Deque<int[]> moving = new ArrayDeque<>();
            for (int l = 0; l < links.size(); l++) {
                Link k = links.get(l);
                for (int r = 0; (set >> l & 1) == 1 && r < k.room && !q(k.from, chosen[l]).isEmpty(); r++) {
                    List<Integer> from = q(k.from, chosen[l]);
                    int born = from.remove(law == 0 ? 0 : from.size() - 1);
                    moving.add(new int[] {k.to, chosen[l], born});
                }
            }
            while (!moving.isEmpty()) {
                int[] p = moving.remove();
                enter(p[0], p[1], p[2]);
            }
            for (int i = 0; i < nodes; i++) {
                for (int g = 0; g < goals.size(); g++) {
                    for (int f = 0; f < feeds[i][g]; f++) {
                        enter(i, g, slots);
                    }
                }
            }
        }

        int packets() {
            int sum = 0;
            for (List<List<Integer>> row : queues) {
                for (List<Integer> one : row) {
                    sum += one.size();
                }
            }
            return sum;
        }

        int squares() {
            int sum = 0;
            for (List<List<Integer>> row : queues) {
                for (List<Integer> one : row) {
                    sum += one.size() * one.size();
                }
            }
            return sum;
        }

        int there() {
            int sum = 0;
            for (List<Integer> d : delays) {
                sum += d.size();
            }
            return sum;
        }

        int pairs() {
            int n = 0;
            for (int a = 0; a < 10; a++) {
                for (int c = a + 1; c < 10; c++) {
                    n += clash[a][c] ? 1 : 0;
                }
            }
            return n;
        }
    }

    private String text = "";
    private State s;
    private Deque<State> kept = new ArrayDeque<>();
    private State read;

    PlainModel() {
        text = FIRST;
        lay();
        text = "";
    }

    int write(int letter) {
        if (letter < 32 || letter > 126) {
            return BAD;
        }
        if (text.length() == 200) {
            return FULL;
        }
        text += (char) letter;
        return text.length();
    }

    int wipe() {
        int was = text.length();
        text = "";
        return was;
    }

    int fault() {
        read = new State();
        int at = 0;
        Matcher m = ITEM.matcher(text);
        while (at < text.length()) {
            m.region(at, text.length());
            if (!m.lookingAt() || !take(m.group())) {
                return at;
            }
            at = m.end();
        }
        return NONE;
    }

    private boolean take(String item) {
        String[] parts = item.substring(1, item.length() - 1).split(",");
        int[] v = new int[3];
        for (int k = 0; k < parts.length; k++) {
            v[k] = Integer.parseInt(parts[k]);
        }
        char kind = item.charAt(0);
        if (kind == 'n') {
            boolean fine = read.nodes == 0 && v[0] >= 2 && v[0] <= 6;
            read.nodes = fine ? v[0] : read.nodes;
            return fine;
        }
        if (read.nodes == 0) {
            return false;
        }
        if (kind == 'g') {
            return v[0] < read.nodes && !read.goals.contains(v[0]) && read.goals.size() < 3 && read.goals.add(v[0]);
        }
        if (kind == 'l') {
            Link l = new Link();
            l.from = v[0];
            l.to = v[1];
            l.room = v[2];
            return read.node(v[0]) && read.node(v[1]) && v[0] != v[1] && v[2] >= 1 && v[2] <= 9
                && read.links.size() < 10 && read.links.add(l);
        }
        if (kind == 'x') {
            boolean fine = read.link(v[0]) && read.link(v[1]) && v[0] != v[1];
            if (fine) {
                read.clash[v[0]][v[1]] = true;
                read.clash[v[1]][v[0]] = true;
            }
            return fine;
        }
        if (kind == 'f') {
            boolean fine = read.queueAt(v[0], v[1]) && v[2] <= 9;
            if (fine) {
                read.feed[v[0]][v[1]] = v[2];
            }
            return fine;
        }
        if (kind == 'b') {
            read.b = v[0];
            return v[0] <= 9;
        }
        read.law = v[0];
        return v[0] <= 1;
    }

    int lay() {
        if (fault() != NONE || read.goals.isEmpty()) {
            return NO;
        }
        s = read;
        kept.clear();
        return s.nodes;
    }

    private void change() {
        kept.addLast(s.copy());
        if (kept.size() > 4) {
            kept.removeFirst();
        }
    }

    int feed(int i, int g, int f) {
        if (!s.queueAt(i, g) || f < 0 || f > 9) {
            return BAD;
        }
        int was = s.feed[i][g];
        if (was == f) {
            return NO;
        }
        change();
        s.feed[i][g] = f;
        return was;
    }

    int room(int l, int r) {
        if (!s.link(l) || r < 1 || r > 9) {
            return BAD;
        }
        int was = s.links.get(l).room;
        if (was == r) {
            return NO;
        }
        change();
        s.links.get(l).room = r;
        return was;
    }

    int tell(int what, int v) {
        if (what < 0 || what > 1 || v < 0 || v > (what == 0 ? 1 : 9)) {
            return BAD;
        }
        int was = what == 0 ? s.law : s.b;
        if (was == v) {
            return NO;
        }
        change();
        if (what == 0) {
            s.law = v;
        } else {
            s.b = v;
        }
        return was;
    }

    int clash(int a, int b, int is) {
        if (!s.link(a) || !s.link(b) || a == b || is < 0 || is > 1) {
            return BAD;
        }
        if (s.clash[a][b] == (is == 1)) {
            return NO;
        }
        change();
        s.clash[a][b] = is == 1;
        s.clash[b][a] = is == 1;
        return s.pairs();
    }

    int put(int i, int g, int n) {
        if (!s.queueAt(i, g) || n < 1 || n > 40) {
            return BAD;
        }
        if (s.q(i, g).size() + n > 40) {
            return FULL;
        }
        change();
        for (int k = 0; k < n; k++) {
            s.q(i, g).add(s.slots);
        }
        return s.q(i, g).size();
    }

    int slot(int n) {
        if (n < 1 || n > 60) {
            return BAD;
        }
        change();
        int before = s.there();
        for (int k = 0; k < n; k++) {
            s.slot(-1, s.feed);
        }
        return s.there() - before;
    }

    int undo() {
        if (kept.isEmpty()) {
            return NO;
        }
        s = kept.removeLast();
        return kept.size();
    }

    int queue(int i, int g, int what) {
        if (!s.queueAt(i, g) || what < 0 || what > 3) {
            return BAD;
        }
        List<Integer> q = s.q(i, g);
        if (what == 0) {
            return q.size();
        }
        if (what == 1) {
            return q.isEmpty() ? NONE : q.get(s.law == 0 ? 0 : q.size() - 1);
        }
        return what == 2 ? s.feed[i][g] : s.bias(i, g);
    }

    int link(int l, int what) {
        if (!s.link(l) || what < 0 || what > 6) {
            return BAD;
        }
        int bits = 0;
        for (int a = 0; a < 10; a++) {
            bits |= s.clash[l][a] ? 1 << a : 0;
        }
        int[] all = {s.links.get(l).from, s.links.get(l).to, s.links.get(l).room, s.choice(l), s.weight(l),
            s.goes(-1)[0] >> l & 1, bits};
        return all[what];
    }

    int drop(int l, int g) {
        return s.link(l) && s.goal(g) ? 1000 + s.drop(l, g) : BAD;
    }

    int goes(int what) {
        return what < 0 || what > 1 ? BAD : s.goes(-1)[what];
    }

    int goal(int g, int what) {
        if (!s.goal(g) || what < 0 || what > 4) {
            return BAD;
        }
        int sum = 0;
        int most = NONE;
        for (int d : s.delays.get(g)) {
            sum += d;
            most = Math.max(most, d);
        }
        int waiting = 0;
        for (int i = 0; i < 6; i++) {
            waiting += s.q(i, g).size();
        }
        int[] all = {s.goals.get(g), s.delays.get(g).size(), sum, most, waiting};
        return all[what];
    }

    int ahead(int n, int what) {
        if (n < 1 || n > 60 || what < 0 || what > 3) {
            return BAD;
        }
        State t = s.copy();
        int most = 0;
        for (int k = 0; k < n; k++) {
            t.slot(-1, t.feed);
            most = Math.max(most, t.squares());
        }
        int[] all = {t.packets(), t.there() - s.there(), t.lost - s.lost, most};
        return all[what];
    }

    int without(int l) {
        if (!s.link(l)) {
            return BAD;
        }
        State t = s.copy();
        for (int k = 0; k < 20; k++) {
            t.slot(l, t.feed);
        }
        return t.packets();
    }

    int worst(int what) {
        if (what < 0 || what > 2) {
            return BAD;
        }
        int[] best = null;
        int weight = s.goes(-1)[1];
        for (int a = 0; a < 10; a++) {
            for (int c = a + 1; c < 10; c++) {
                if (s.clash[a][c]) {
                    State t = s.copy();
                    t.clash[a][c] = false;
                    t.clash[c][a] = false;
                    if (t.goes(-1)[1] > weight) {
                        weight = t.goes(-1)[1];
                        best = new int[] {a, c, weight};
                    }
                }
            }
        }
        return best == null ? NONE : best[what];
    }

    int drawn(int z, int n, int what) {
        if (z < 0 || z > 9999 || n < 1 || n > 60 || what < 0 || what > 2) {
            return BAD;
        }
        State t = s.copy();
        int[] powers = {1, 8, 64};
        for (int k = 0; k < n; k++) {
            int[][] feeds = new int[6][3];
            for (int i = 0; i < s.nodes; i++) {
                for (int g = 0; g < s.goals.size(); g++) {
                    long x = 7919L * z + 6151L * k + 97L * i + 1;
                    long draw = x % 65521 * (x % 65521) % 65521;
                    feeds[i][g] = (int) (draw / powers[g] % (2 * s.feed[i][g] + 1));
                }
            }
            t.slot(-1, feeds);
        }
        int[] all = {t.packets(), t.there() - s.there(), t.lost - s.lost};
        return all[what];
    }

    int count(int what) {
        int[] all = {s.nodes, s.goals.size(), s.links.size(), s.pairs(), s.law, s.b, s.slots, s.packets(), s.there(),
            s.lost, s.squares(), kept.size(), text.length()};
        return what < 0 || what >= all.length ? BAD : all[what];
    }
}
