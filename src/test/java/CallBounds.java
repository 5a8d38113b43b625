import java.util.ArrayList;
import java.util.List;

/** The promises one by one: each number of each call at its bounds, and which refusal comes first. */
final class CallBounds {
    private static final int BAD = DropQueues.BAD;
    /** Four NODES, two GOALS (NODES 3 and 1), three LINKS; something is in every kind of state. */
    private static final String NET = "n4;g3;g1;l0,1,2;l1,3,1;l0,2,1;x0,2;f0,0,2;b1;";
    private static final int[] FAR = {Integer.MIN_VALUE, Integer.MIN_VALUE + 1, -1000, -4, -3, -2, -1, 64, 256, 1 << 16,
        Integer.MAX_VALUE};

    private final Sentences s;

    CallBounds(Sentences s) {
        this.s = s;
    }

    void all() {
        bad();
        no();
        none();
        full();
        order();
        textStays();
        newObject();
        write();
        wipe();
        fault();
        lay();
        feed();
        room();
        tell();
        clash();
        put();
        slot();
        undo();
        queue();
        link();
        drop();
        goes();
        goal();
        ahead();
        without();
        worst();
        drawn();
        count();
    }

    private Run busy() {
        Run run = Run.written(NET);
        for (String call : new String[] {"lay()", "put(0, 1, 7)", "put(2, 0, 40)", "slot(3)", "tell(0, 1)"}) {
            run.ask(call);
        }
        return run;
    }

    /** The call with its numbers inside, then each one alone far and just outside its bounds (least, most). */
    private void outside(String name, int[] fine, int[]... bounds) {
        for (int k = 0; k < bounds.length; k++) {
            List<Integer> wrong = new ArrayList<>();
            wrong.add(bounds[k][0] - 1);
            wrong.add(bounds[k][1] + 1);
            for (int far : FAR) {
                if (far < bounds[k][0] || far > bounds[k][1]) {
                    wrong.add(far);
                }
            }
            for (int value : wrong) {
                int[] numbers = fine.clone();
                numbers[k] = value;
                s.due(busy(), told(name, numbers), BAD);
            }
        }
        int[] all = new int[fine.length];
        for (int k = 0; k < all.length; k++) {
            all[k] = bounds[k][1] + 1;
        }
        s.due(busy(), told(name, all), BAD);
    }

    private static String told(String name, int... numbers) {
        StringBuilder call = new StringBuilder(name).append('(');
        for (int k = 0; k < numbers.length; k++) {
            call.append(k == 0 ? "" : ", ").append(numbers[k]);
        }
        return call.append(')').toString();
    }

    private static int[] to(int least, int most) {
        return new int[] {least, most};
    }

    private void bad() {
        s.says("BAD: a number is none that is told (NODES, GOALS, LINKS such as there are).");
        s.laid("n2;g1;l0,1,1;", "queue(0, 0, 0) = 0", "queue(1, 0, 0) = BAD", "queue(2, 0, 0) = BAD", "queue(0, 1, 0) = BAD",
            "goal(1, 0) = BAD", "link(1, 0) = BAD", "drop(0, 1) = BAD", "drop(1, 0) = BAD", "without(1) = BAD",
            "room(1, 5) = BAD", "clash(0, 1, 1) = BAD", "feed(2, 0, 1) = BAD", "put(2, 0, 1) = BAD", "put(0, 1, 1) = BAD");
        s.written("n6;g1;g2;g3;" + "l0,1,1;".repeat(10), "link(7, 0) = BAD", "goal(2, 0) = BAD", "queue(5, 0, 0) = BAD",
            "lay() = 6", "link(7, 0) = 0", "link(9, 0) = 0", "goal(2, 0) = 3", "queue(5, 0, 0) = 0", "wipe() = 82");
        Run less = Run.written("n6;g1;g2;g3;" + "l0,1,1;".repeat(10));
        less.ask("lay()");
        less.rewrite("n2;g1;");
        s.go(less, "lay() = 2", "link(0, 0) = BAD", "goal(1, 0) = BAD", "queue(2, 0, 0) = BAD", "queue(0, 0, 0) = 0");
    }

    private void no() {
        s.says("NO: not as things stand.");
        s.laid(NET, "feed(0, 0, 2) = NO", "room(0, 2) = NO", "tell(0, 0) = NO", "tell(1, 1) = NO", "clash(0, 2, 1) = NO",
            "clash(0, 1, 0) = NO", "undo() = NO", "count(11) = 0", "wipe() = 45", "lay() = NO");
    }

    private void none() {
        s.says("NONE: there is none.");
        s.laid(NET, "fault() = NONE", "queue(0, 0, 1) = NONE", "link(0, 3) = NONE", "goal(0, 3) = NONE", "worst(0) = NONE",
            "worst(1) = NONE", "worst(2) = NONE");
    }

    private void full() {
        s.says("FULL.");
        s.laid(NET, "put(2, 0, 40) = 40", "put(2, 0, 1) = FULL");
        s.written(" ".repeat(200), "write(32) = FULL", "count(12) = 200");
    }

    private void order() {
        s.says("Of several the first in this order, whatever the order at a call; nothing changes then.");
        s.written(" ".repeat(200), "write(31) = BAD", "write(127) = BAD", "write(126) = FULL");
        s.laid(NET, "put(2, 0, 40) = 40", "put(2, 0, 41) = BAD", "put(2, 0, 40) = FULL", "put(2, 2, 40) = BAD",
            "put(4, 0, 40) = BAD", "feed(3, 0, 0) = BAD", "feed(1, 1, 0) = BAD", "feed(4, 0, 0) = BAD", "feed(0, 2, 0) = BAD",
            "room(3, 1) = BAD", "tell(2, 0) = BAD", "tell(-1, 0) = BAD", "tell(0, 2) = BAD", "clash(1, 1, 0) = BAD",
            "clash(0, 3, 0) = BAD", "clash(3, 0, 0) = BAD", "clash(0, 1, 2) = BAD", "clash(0, 1, -1) = BAD",
            "queue(3, 0, 1) = BAD", "queue(1, 1, 1) = BAD", "queue(0, 0, 4) = BAD", "link(3, 3) = BAD", "link(0, 7) = BAD",
            "goal(2, 3) = BAD", "goal(0, 5) = BAD", "worst(3) = BAD", "worst(-1) = BAD");
    }

    private void textStays() {
        s.says("THE TEXT stays when it is LAID.");
        s.written("n2;g1;", "lay() = 2", "count(12) = 6", "fault() = NONE", "lay() = 2", "write(98) = 7", "fault() = 6",
            "lay() = NO", "write(57) = 8", "write(59) = 9", "lay() = 2", "count(5) = 9", "count(12) = 9", "wipe() = 9");
    }

    private void newObject() {
        s.says("As told; THE TEXT is empty.");
        s.go(new Run(), "count(12) = 0", "fault() = NONE", "lay() = NO", "wipe() = 0", "undo() = NO", "count(0) = 5");
        for (int what = 6; what <= 12; what++) {
            s.due(new Run(), "count(" + what + ")", 0);
        }
        Run other = new Run();
        other.ask("slot(60)");
        s.alike(new Run(), other.againWithoutLast(1));
    }

    private void write() {
        s.says("A letter (32 to 126, as in ASCII) comes behind THE TEXT: how long it is. BAD; FULL: it has 200.");
        for (int letter = -2; letter <= 300; letter++) {
            s.due(new Run(), "write(" + letter + ")", letter >= 32 && letter <= 126 ? 1 : BAD);
        }
        outside("write", new int[] {32}, to(32, 126));
        for (int letter : new int[] {'n' + 256, 'n' + 65536, 'n' - 65536}) {
            s.due(new Run(), "write(" + letter + ")", BAD);
        }
        Run run = new Run();
        for (int n = 1; n <= 200; n++) {
            s.due(run, "write(" + (n % 2 == 0 ? 32 : 126) + ")", n);
        }
        s.go(run, "write(32) = FULL", "write(126) = FULL", "write(31) = BAD", "count(12) = 200", "wipe() = 200",
            "write(32) = 1");
    }

    private void wipe() {
        s.says("THE TEXT is empty: how long it was.");
        s.written("", "wipe() = 0", "wipe() = 0");
        s.written("n", "wipe() = 1", "count(12) = 0", "wipe() = 0");
        s.written("n2;g1;", "lay() = 2", "put(0, 0, 3) = 3", "wipe() = 6", "fault() = NONE", "lay() = NO", "count(0) = 2",
            "count(7) = 3", "count(11) = 1");
        s.written(" ".repeat(200), "wipe() = 200", "count(12) = 0", "write(110) = 1", "fault() = 0");
    }

    private void fault() {
        s.says("FAULT of THE TEXT. NONE.");
        s.written("", "fault() = NONE");
        s.written("n2", "fault() = 0", "write(59) = 3", "fault() = NONE", "write(59) = 4", "fault() = 3");
        s.laid(NET, "put(0, 0, 3) = 3", "slot(2) = 1", "write(33) = 46", "fault() = 45", "count(6) = 2");
    }

    private void lay() {
        s.says("LAID: how many NODES; all QUEUES empty, no SLOT done, none THERE, LOST, nothing can be UNDONE. NO.");
        for (int n = 2; n <= 6; n++) {
            s.written("n" + n + ";g0;", "lay() = " + n, "count(0) = " + n);
        }
        Run run = s.laid("n3;g2;l0,1,9;l1,2,1;f0,0,9;", "put(0, 0, 40) = 40", "put(1, 0, 39) = 39", "slot(60) = 60",
            "feed(0, 0, 8) = 9");
        s.go(run, "lay() = 3", "queue(0, 0, 2) = 9", "count(6) = 0", "count(7) = 0", "count(8) = 0", "count(9) = 0",
            "count(10) = 0", "count(11) = 0", "goal(0, 1) = 0", "goal(0, 2) = 0", "goal(0, 3) = NONE", "goal(0, 4) = 0",
            "queue(0, 0, 0) = 0", "queue(0, 0, 1) = NONE", "undo() = NO");
        s.alike(s.laid("n3;g2;l0,1,9;l1,2,1;f0,0,9;"), run.againWithoutLast(1));
        layOverOther();
        for (String text : new String[] {"", "n4;", "n4;g0", "n4;g4;", "g0;", "n4;g0;;"}) {
            Run refused = Run.written(text);
            for (String call : new String[] {"put(0, 0, 9)", "slot(9)", "room(0, 1)", "clash(0, 1, 1)", "tell(0, 1)"}) {
                refused.ask(call);
            }
            s.due(refused, "lay()", DropQueues.NO);
        }
    }

    /** Nothing of what was LAID, read or done ahead of it stays. */
    private void layOverOther() {
        String other = "n6;g5;g4;g3;" + "l0,5,9;".repeat(10) + "x0,1;x8,9;b9;o1;f0,0,9;f1,1,9;f2,2,9;";
        String[] texts = {"n2;g1;", "n2;g0;l1,0,1;", "n3;g2;l0,1,2;l1,2,1;", NET, "n6;g0;g1;g2;"};
        for (String text : texts) {
            Run run = Run.written(other);
            run.ask("lay()");
            run.ask("put(0, 0, 40)");
            run.ask("slot(20)");
            run.ask("ahead(9, 0)");
            run.rewrite(text);
            s.due(run, "lay()", text.charAt(1) - '0');
            s.alike(s.laid(text), run);
        }
        Run read = Run.written(other);
        s.due(read, "fault()", DropQueues.NONE);
        read.rewrite(NET);
        s.due(read, "lay()", 4);
        s.alike(s.laid(NET), read);
        Run slow = s.laid("n2;g1;l0,1,1;", "put(0, 0, 9) = 9", "slot(9) = 9", "goal(0, 3) = 9");
        s.go(slow, "lay() = 2", "goal(0, 3) = NONE", "put(0, 0, 1) = 1", "slot(1) = 1", "goal(0, 3) = 1", "goal(0, 2) = 1");
    }

    private void feed() {
        s.says("FEED of a NODE for a GOAL (0 to 9): what it was. BAD (at the GOAL, too); NO: it is so.");
        Run run = s.laid("n4;g3;g1;f0,0,4;", "feed(0, 0, 4) = NO");
        for (int f = 9; f >= 0; f--) {
            s.due(run, "feed(0, 0, " + f + ")", f == 9 ? 4 : f + 1);
            s.due(run, "feed(0, 0, " + f + ")", DropQueues.NO);
            s.due(run, "queue(0, 0, 2)", f);
        }
        s.go(run, "feed(0, 0, 10) = BAD", "feed(0, 0, -1) = BAD", "feed(3, 0, 0) = BAD", "feed(3, 0, 1) = BAD",
            "feed(1, 1, 0) = BAD", "feed(1, 1, 9) = BAD", "feed(3, 1, 9) = 0", "feed(1, 0, 9) = 0", "feed(4, 0, 1) = BAD",
            "feed(0, 2, 1) = BAD", "slot(1) = 0", "count(7) = 18");
        outside("feed", new int[] {2, 1, 5}, to(0, 3), to(0, 1), to(0, 9));
    }

    private void room() {
        s.says("ROOM of a LINK (1 to 9): what it was. BAD; NO: it is so.");
        Run run = s.laid("n2;g1;l0,1,4;l0,1,1;", "room(0, 4) = NO", "room(1, 1) = NO");
        for (int r = 9; r >= 1; r--) {
            s.due(run, "room(0, " + r + ")", r == 9 ? 4 : r + 1);
            s.due(run, "room(0, " + r + ")", DropQueues.NO);
            s.due(run, "link(0, 2)", r);
        }
        s.go(run, "room(0, 0) = BAD", "room(0, 10) = BAD", "room(2, 1) = BAD", "room(-1, 1) = BAD", "link(1, 2) = 1");
        outside("room", new int[] {2, 5}, to(0, 2), to(1, 9));
    }

    private void tell() {
        s.says("LAW (what = 0; 0, 1), B (1; 0 to 9): what it was. BAD; NO: it is so.");
        s.laid("n2;g1;", "tell(0, 0) = NO", "tell(0, 1) = 0", "tell(0, 1) = NO", "tell(0, 0) = 1", "tell(0, 2) = BAD",
            "tell(0, -1) = BAD", "count(4) = 0", "tell(1, 0) = NO", "tell(1, 9) = 0", "tell(1, 9) = NO", "tell(1, 10) = BAD",
            "tell(1, -1) = BAD", "tell(1, 8) = 9", "tell(1, 1) = 8", "tell(1, 0) = 1", "tell(2, 0) = BAD", "tell(2, 1) = BAD",
            "tell(-1, 1) = BAD", "count(5) = 0");
        outside("tell", new int[] {0, 0}, to(0, 1), to(0, 1));
        outside("tell", new int[] {1, 5}, to(0, 1), to(0, 9));
    }

    private void clash() {
        s.says("Two LINKS CLASH (is = 1) or not (0): how many pairs do. BAD (alike, too); NO: it is so.");
        s.laid("n3;g2;l0,1,1;l1,2,1;l0,2,1;", "clash(0, 1, 0) = NO", "clash(0, 1, 1) = 1", "clash(0, 1, 1) = NO",
            "clash(1, 0, 1) = NO", "clash(2, 1, 1) = 2", "clash(2, 0, 1) = 3", "clash(1, 2, 0) = 2", "clash(2, 1, 0) = NO",
            "clash(0, 0, 0) = BAD", "clash(2, 2, 1) = BAD", "clash(0, 3, 1) = BAD", "clash(3, 0, 1) = BAD",
            "clash(0, 1, 2) = BAD", "clash(1, 0, 0) = 1", "clash(0, 2, 0) = 0", "count(3) = 0");
        outside("clash", new int[] {0, 1, 1}, to(0, 2), to(0, 2), to(0, 1));
        outside("clash", new int[] {2, 0, 0}, to(0, 2), to(0, 2), to(0, 1));
        for (int far : FAR) {
            s.due(busy(), told("clash", far, far, 0), BAD);
            s.due(busy(), told("clash", far, far, 1), BAD);
        }
    }

    private void put() {
        s.says("n packets (1 to 40), BORN in the SLOT done last (0: ahead of the first), are put into a QUEUE: how many it has."
            + " BAD (at the GOAL, too); FULL: it has no place for so many.");
        s.laid("n4;g3;g1;", "put(0, 0, 0) = BAD", "put(0, 0, 41) = BAD", "put(0, 0, 1) = 1", "put(0, 0, 40) = FULL",
            "put(0, 0, 39) = 40", "put(0, 0, 1) = FULL", "put(0, 1, 40) = 40", "put(0, 1, 1) = FULL", "put(3, 0, 1) = BAD",
            "put(1, 1, 1) = BAD", "put(1, 0, 38) = 38", "put(1, 0, 3) = FULL", "put(1, 0, 2) = 40", "count(9) = 0",
            "count(7) = 120");
        s.laid("n2;g1;", "put(0, 0, 1) = 1", "queue(0, 0, 1) = 0", "slot(1) = 0", "put(0, 0, 1) = 2", "queue(0, 0, 1) = 0",
            "tell(0, 1) = 0", "queue(0, 0, 1) = 1", "slot(60) = 0", "put(0, 0, 38) = 40", "queue(0, 0, 1) = 61");
        outside("put", new int[] {0, 0, 1}, to(0, 3), to(0, 1), to(1, 40));
    }

    private void slot() {
        s.says("n SLOTS (1 to 60) are done (one change): how many packets came THERE in them. BAD.");
        s.laid("n2;g1;l0,1,1;f0,0,1;", "slot(0) = BAD", "slot(61) = BAD", "slot(-1) = BAD", "count(6) = 0", "slot(1) = 0",
            "count(6) = 1", "count(11) = 1", "slot(60) = 60", "count(6) = 61", "count(11) = 2", "slot(59) = 59",
            "count(6) = 120", "slot(2) = 2", "count(8) = 121", "undo() = 3", "count(6) = 120", "undo() = 2", "count(6) = 61",
            "count(8) = 60", "undo() = 1", "count(6) = 1", "undo() = 0", "count(6) = 0");
        outside("slot", new int[] {1}, to(1, 60));
    }

    private void undo() {
        s.says("UNDONE: how many more can be. NO.");
        s.laid("n2;g1;", "undo() = NO", "put(0, 0, 1) = 1", "undo() = 0", "undo() = NO", "put(0, 0, 1) = 1", "put(0, 0, 1) = 2",
            "put(0, 0, 1) = 3", "put(0, 0, 1) = 4", "put(0, 0, 1) = 5", "undo() = 3", "undo() = 2", "undo() = 1",
            "undo() = 0", "undo() = NO", "count(7) = 1");
    }

    private void queue() {
        s.says("Of a QUEUE: packets (what = 0), the SLOT in which the one that would leave first was BORN (1; NONE: it is empty),"
            + " FEED (2), BIAS (3). BAD (at the GOAL, too).");
        s.laid("n3;g2;l0,1,1;l1,2,1;f0,0,9;b9;", "queue(0, 0, 0) = 0", "queue(0, 0, 1) = NONE", "queue(0, 0, 2) = 9",
            "queue(0, 0, 3) = 18", "queue(0, 0, 4) = BAD", "queue(0, 0, -1) = BAD", "put(0, 0, 1) = 1", "queue(0, 0, 0) = 1",
            "queue(0, 0, 1) = 0", "slot(1) = 0", "queue(0, 0, 0) = 9", "queue(0, 0, 1) = 1", "queue(1, 0, 1) = 0",
            "slot(4) = 4", "queue(0, 0, 0) = 40", "queue(0, 0, 1) = 1", "tell(0, 1) = 0", "queue(0, 0, 1) = 5",
            "queue(2, 0, 0) = BAD", "queue(2, 0, 3) = BAD");
        outside("queue", new int[] {0, 0, 0}, to(0, 3), to(0, 1), to(0, 3));
        outside("queue", new int[] {2, 1, 3}, to(0, 3), to(0, 1), to(0, 3));
        for (int what = 0; what <= 3; what++) {
            s.due(busy(), told("queue", 3, 0, what), BAD);
            s.due(busy(), told("queue", 1, 1, what), BAD);
        }
    }

    private void link() {
        s.says("Of a LINK: its first NODE (what = 0), its second one (1), ROOM (2), CHOICE (3; NONE), WEIGHT (4), 1 if it is of"
            + " THE LINKS that go (5), LINKS that it CLASHES with, as bits (6). BAD.");
        s.laid(NET, "put(0, 0, 3) = 3", "link(0, 0) = 0", "link(0, 1) = 1", "link(0, 2) = 2", "link(0, 3) = 0",
            "link(0, 4) = 8", "link(0, 5) = 1", "link(0, 6) = 4", "link(0, 7) = BAD", "link(0, -1) = BAD", "link(1, 3) = NONE",
            "link(1, 4) = 0", "link(1, 5) = 0", "link(1, 6) = 0", "link(2, 4) = 0", "link(2, 5) = 0", "link(2, 6) = 1",
            "link(3, 0) = BAD", "link(3, 6) = BAD");
        outside("link", new int[] {2, 6}, to(0, 2), to(0, 6));
        Run ten = s.laid("n2;g1;" + "l0,1,1;".repeat(10) + "x9,0;x9,8;", "put(0, 0, 9) = 9");
        s.go(ten, "link(9, 6) = 257", "link(0, 6) = 512", "link(8, 6) = 512", "link(9, 5) = 0", "link(8, 5) = 1",
            "link(10, 6) = BAD");
    }

    private void drop() {
        s.says("DROP of a LINK for a GOAL, and 1000. BAD.");
        s.laid("n3;g0;g2;l0,1,1;b9;", "drop(0, 0) = 919", "put(1, 0, 40) = 40", "drop(0, 0) = 879", "drop(0, 1) = 1000",
            "put(0, 1, 40) = 40", "drop(0, 1) = 1040", "drop(0, 2) = BAD", "drop(1, 0) = BAD", "drop(-1, 0) = BAD",
            "drop(0, -1) = BAD");
        outside("drop", new int[] {2, 1}, to(0, 2), to(0, 1));
    }

    private void goes() {
        s.says("THE LINKS that go, as bits (what = 0), WEIGHT together (1). BAD.");
        s.laid(NET, "goes(0) = 0", "goes(1) = 0", "put(0, 0, 3) = 3", "goes(0) = 1", "goes(1) = 8", "goes(2) = BAD",
            "goes(-1) = BAD", "put(1, 0, 1) = 1", "goes(0) = 3", "goes(1) = 8");
        outside("goes", new int[] {0}, to(0, 1));
    }

    private void goal() {
        s.says("Of a GOAL: its NODE (what = 0), THERE so far (1), DELAYS of these together (2), the greatest one (3; NONE: none"
            + " is THERE), packets for it in all QUEUES (4). BAD.");
        s.laid("n3;g2;g1;l0,2,9;", "goal(0, 0) = 2", "goal(0, 1) = 0", "goal(0, 2) = 0", "goal(0, 3) = NONE", "goal(0, 4) = 0",
            "put(0, 0, 10) = 10", "put(1, 0, 40) = 40", "put(2, 1, 3) = 3", "goal(0, 4) = 50", "goal(1, 4) = 3",
            "slot(1) = 9", "goal(0, 1) = 9", "goal(0, 2) = 9", "goal(0, 3) = 1", "goal(0, 4) = 41", "goal(1, 3) = NONE",
            "slot(1) = 1", "goal(0, 1) = 10", "goal(0, 2) = 11", "goal(0, 3) = 2", "put(0, 0, 1) = 1", "slot(1) = 1",
            "goal(0, 2) = 12", "goal(0, 3) = 2", "goal(0, 5) = BAD", "goal(0, -1) = BAD", "goal(2, 0) = BAD",
            "goal(-1, 0) = BAD");
        outside("goal", new int[] {1, 4}, to(0, 1), to(0, 4));
    }

    private void ahead() {
        s.says("AHEAD n SLOTS: packets (what = 0), THERE (1), LOST (2), SQUARES (3). BAD.");
        s.laid("n2;g1;l0,1,1;f0,0,9;", "put(0, 0, 30) = 30", "ahead(2, 0) = 40", "ahead(2, 1) = 2", "ahead(2, 2) = 6",
            "ahead(2, 3) = 1600", "ahead(1, 3) = 1444", "ahead(2, 4) = BAD", "ahead(2, -1) = BAD", "ahead(61, 3) = BAD");
        outside("ahead", new int[] {60, 3}, to(1, 60), to(0, 3));
        outside("ahead", new int[] {1, 0}, to(1, 60), to(0, 3));
    }

    private void without() {
        s.says("WITHOUT a LINK. BAD.");
        s.laid(NET, "put(0, 1, 40) = 40", "without(0) = 80", "without(2) = 47", "without(3) = BAD");
        outside("without", new int[] {2}, to(0, 2));
    }

    private void worst() {
        s.says("WORST CLASH: the lower LINK (what = 0), the other one (1), WEIGHT then (2). BAD; NONE.");
        s.laid(NET, "worst(0) = NONE", "put(0, 1, 9) = 9", "worst(0) = 0", "worst(1) = 2", "worst(2) = 21", "worst(3) = BAD",
            "worst(-1) = BAD");
        outside("worst", new int[] {0}, to(0, 2));
    }

    private void drawn() {
        s.says("DRAWN SLOTS: packets in all QUEUES then (what = 0), THERE in them (1), LOST in them (2). BAD.");
        s.laid("n2;g1;l0,1,1;f0,0,9;", "drawn(0, 1, 0) = 1", "drawn(0, 2, 0) = 10", "drawn(0, 2, 1) = 1", "drawn(0, 2, 2) = 0",
            "put(0, 0, 39) = 39", "drawn(0, 1, 2) = 0", "drawn(0, 2, 0) = 40", "drawn(0, 2, 1) = 2", "drawn(0, 2, 2) = 8",
            "drawn(0, 2, 3) = BAD");
        outside("drawn", new int[] {0, 1, 0}, to(0, 9999), to(1, 60), to(0, 2));
        outside("drawn", new int[] {9999, 60, 2}, to(0, 9999), to(1, 60), to(0, 2));
    }

    private void count() {
        s.says("How many: 0 NODES, 1 GOALS, 2 LINKS, 3 pairs that CLASH, 4 LAW, 5 B, 6 SLOTS done, 7 packets in all QUEUES,"
            + " 8 THERE so far, 9 LOST so far, 10 SQUARES, 11 changes that can be UNDONE, 12 letters of THE TEXT. BAD.");
        Run run = s.laid("n5;g3;g1;l0,1,9;l1,3,1;l2,3,1;x0,2;b4;o1;f0,0,1;f4,0,9;", "put(0, 1, 40) = 40", "put(4, 0, 32) = 32",
            "slot(2) = 18");
        int[] want = {5, 2, 3, 1, 1, 4, 2, 22 + 40 + 2, 18, 10, 22 * 22 + 1600 + 4, 3, 55};
        for (int what = 0; what < want.length; what++) {
            s.due(run, "count(" + what + ")", want[what]);
        }
        s.go(run, "count(13) = BAD", "count(-1) = BAD");
        outside("count", new int[] {0}, to(0, 12));
    }
}
