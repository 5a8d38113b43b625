import java.util.ArrayList;
import java.util.List;
import java.util.Random;

/** Random runs of calls: each answer of the class must be that of the plain model. */
public final class ModelTest {
    private static final int RUNS = 1200;
    private static final int CALLS = 512;
    private static final Checks CHECKS = new Checks();

    private final Random random;
    private final int run;
    private final DropQueues x = new DropQueues();
    private final PlainModel model = new PlainModel();
    private int calls;

    private ModelTest(int run) {
        this.run = run;
        this.random = new Random(run);
    }

    public static void main(String[] args) {
        for (int run = 0; run < RUNS; run++) {
            new ModelTest(run).go();
        }
        CHECKS.end("ModelTest");
    }

    private void go() {
        if (run % 4 != 0) {
            layRandom();
        }
        while (calls < CALLS) {
            int kind = random.nextInt(100);
            if (kind < 1) {
                layRandom();
            } else if (kind < 3) {
                writeBroken();
            } else if (kind < 20) {
                tellAnew();
            } else if (kind < 42) {
                packets();
            } else if (kind < 80) {
                look();
            } else {
                lookAhead();
            }
        }
    }

    private void due(String call, int got, int want) {
        calls++;
        CHECKS.due("run " + run + " call " + calls + ": " + call, got, want);
    }

    /** Now and then a number that is none that is told. */
    private int about(int least, int most) {
        int dice = random.nextInt(60);
        if (dice == 0) {
            return least - 1;
        }
        if (dice == 1) {
            return most + 1;
        }
        if (dice == 2) {
            return random.nextBoolean() ? Integer.MIN_VALUE : Integer.MAX_VALUE;
        }
        return least + random.nextInt(most - least + 1);
    }

    private int node() {
        return about(0, model.count(0) - 1);
    }

    private int goal() {
        return about(0, model.count(1) - 1);
    }

    private int link() {
        return about(0, Math.max(0, model.count(2) - 1));
    }

    private void write(String text) {
        for (int k = 0; k < text.length(); k++) {
            char c = text.charAt(k);
            due("write('" + c + "')", x.write(c), model.write(c));
        }
    }

    private void layRandom() {
        due("wipe()", x.wipe(), model.wipe());
        write(randomText());
        due("fault()", x.fault(), model.fault());
        due("lay()", x.lay(), model.lay());
    }

    private String randomText() {
        int n = 2 + random.nextInt(5);
        int goals = 1 + random.nextInt(Math.min(3, n));
        int links = random.nextInt(11);
        StringBuilder t = new StringBuilder("n" + n + ";");
        List<Integer> nodes = new ArrayList<>();
        for (int i = 0; i < n; i++) {
            nodes.add(i);
        }
        for (int g = 0; g < goals; g++) {
            t.append('g').append(nodes.remove(random.nextInt(nodes.size()))).append(';');
        }
        for (int l = 0; l < links; l++) {
            int i = random.nextInt(n);
            int j = (i + 1 + random.nextInt(n - 1)) % n;
            t.append('l').append(i).append(',').append(j).append(',').append(1 + random.nextInt(random.nextBoolean() ? 2 : 9)).append(';');
        }
        for (int k = random.nextInt(8); k > 0 && links > 1; k--) {
            int a = random.nextInt(links);
            t.append('x').append(a).append(',').append((a + 1 + random.nextInt(links - 1)) % links).append(';');
        }
        for (int k = random.nextInt(6); k > 0; k--) {
            int i = random.nextInt(n);
            int g = random.nextInt(goals);
            if (t.indexOf(";g" + i + ";") < 0) {
                t.append('f').append(i).append(',').append(g).append(',').append(random.nextInt(10)).append(';');
            }
        }
        if (random.nextBoolean()) {
            t.append('b').append(random.nextInt(10)).append(';');
        }
        if (random.nextBoolean()) {
            t.append('o').append(random.nextInt(2)).append(';');
        }
        return t.toString();
    }

    private void writeBroken() {
        if (random.nextBoolean()) {
            due("wipe()", x.wipe(), model.wipe());
            String t = randomText();
            int at = random.nextInt(t.length());
            String signs = "nglxfbo;,0123456789 ~";
            write(t.substring(0, at) + signs.charAt(random.nextInt(signs.length())) + t.substring(at + random.nextInt(2)));
        } else {
            int letter = about(32, 126);
            due("write(" + letter + ")", x.write(letter), model.write(letter));
        }
        due("fault()", x.fault(), model.fault());
        if (random.nextInt(4) == 0) {
            due("lay()", x.lay(), model.lay());
        }
    }

    private void tellAnew() {
        int a = link();
        int b = link();
        int i = node();
        int g = goal();
        switch (random.nextInt(5)) {
            case 0:
                int f = about(0, 9);
                due("feed(" + i + ", " + g + ", " + f + ")", x.feed(i, g, f), model.feed(i, g, f));
                break;
            case 1:
                int r = about(1, 9);
                due("room(" + a + ", " + r + ")", x.room(a, r), model.room(a, r));
                break;
            case 2:
                int what = about(0, 1);
                int v = about(0, what == 0 ? 1 : 9);
                due("tell(" + what + ", " + v + ")", x.tell(what, v), model.tell(what, v));
                break;
            default:
                int is = about(0, 1);
                due("clash(" + a + ", " + b + ", " + is + ")", x.clash(a, b, is), model.clash(a, b, is));
        }
    }

    private void packets() {
        int dice = random.nextInt(10);
        if (dice < 5) {
            int i = node();
            int g = goal();
            int n = random.nextBoolean() ? about(1, 40) : about(1, 6);
            due("put(" + i + ", " + g + ", " + n + ")", x.put(i, g, n), model.put(i, g, n));
        } else if (dice < 8) {
            int n = random.nextInt(4) == 0 ? about(1, 60) : about(1, 3);
            due("slot(" + n + ")", x.slot(n), model.slot(n));
        } else {
            due("undo()", x.undo(), model.undo());
        }
    }

    private void look() {
        int l = link();
        int g = goal();
        int i = node();
        int what;
        switch (random.nextInt(6)) {
            case 0:
                what = about(0, 3);
                due("queue(" + i + ", " + g + ", " + what + ")", x.queue(i, g, what), model.queue(i, g, what));
                break;
            case 1:
                what = about(0, 6);
                due("link(" + l + ", " + what + ")", x.link(l, what), model.link(l, what));
                break;
            case 2:
                due("drop(" + l + ", " + g + ")", x.drop(l, g), model.drop(l, g));
                break;
            case 3:
                what = about(0, 1);
                due("goes(" + what + ")", x.goes(what), model.goes(what));
                break;
            case 4:
                what = about(0, 4);
                due("goal(" + g + ", " + what + ")", x.goal(g, what), model.goal(g, what));
                break;
            default:
                what = about(0, 12);
                due("count(" + what + ")", x.count(what), model.count(what));
        }
    }

    private void lookAhead() {
        int n = random.nextInt(8) == 0 ? about(1, 60) : about(1, 6);
        int l = link();
        int what;
        switch (random.nextInt(8)) {
            case 0:
            case 1:
                what = about(0, 3);
                due("ahead(" + n + ", " + what + ")", x.ahead(n, what), model.ahead(n, what));
                break;
            case 2:
                due("without(" + l + ")", x.without(l), model.without(l));
                break;
            case 3:
            case 4:
            case 5:
                what = about(0, 2);
                due("worst(" + what + ")", x.worst(what), model.worst(what));
                break;
            default:
                int z = about(0, 9999);
                what = about(0, 2);
                due("drawn(" + z + ", " + n + ", " + what + ")", x.drawn(z, n, what), model.drawn(z, n, what));
        }
    }
}
