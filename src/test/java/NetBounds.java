/** Terms, part 1: NODES, GOALS, LINKS, QUEUES and BIAS at their bounds. */
final class NetBounds {
    private final Sentences s;

    NetBounds(Sentences s) {
        this.s = s;
    }

    void all() {
        nodesAndGoals();
        links();
        rooms();
        pairs();
        queues();
        feeds();
        queueAtItsGoal();
        biases();
    }

    private void nodesAndGoals() {
        s.says("(2 to 6), GOALS 0, 1, .. (1 to 3), each a NODE.");
        for (String n : new String[] {"0", "1", "7", "8", "9", "10", "26", "62", "99"}) {
            s.faultIs("n" + n + ";g0;", 0);
        }
        for (int n = 2; n <= 6; n++) {
            s.laid("n" + n + ";g0;", "count(0) = " + n, "queue(" + (n - 1) + ", 0, 0) = 0",
                "queue(" + n + ", 0, 0) = BAD", "queue(1, 0, 0) = 0", "queue(-1, 0, 0) = BAD",
                "put(" + (n - 1) + ", 0, 1) = 1", "put(" + n + ", 0, 1) = BAD", "put(-1, 0, 1) = BAD");
            s.laid("n" + n + ";g" + (n - 1) + ";", "goal(0, 0) = " + (n - 1));
            s.faultIs("n" + n + ";g" + n + ";", 3);
        }
        s.written("n6;", "fault() = NONE", "lay() = NO", "count(0) = 5", "count(1) = 2");
        s.laid("n6;g5;", "count(1) = 1", "goal(0, 0) = 5", "goal(1, 0) = BAD", "goal(-1, 0) = BAD");
        s.laid("n6;g5;g0;", "count(1) = 2", "goal(1, 0) = 0", "goal(2, 0) = BAD");
        s.laid("n6;g5;g0;g3;", "count(1) = 3", "goal(0, 0) = 5", "goal(1, 0) = 0", "goal(2, 0) = 3", "goal(3, 0) = BAD",
            "queue(4, 2, 0) = 0", "queue(4, 3, 0) = BAD");
        s.faultIs("n6;g5;g0;g3;g1;", 12);
        s.laid("n2;g0;g1;", "count(1) = 2", "queue(0, 1, 0) = 0", "queue(1, 0, 0) = 0", "queue(0, 0, 0) = BAD");
        s.faultIs("n2;g0;g1;g2;", 9);
    }

    private void links() {
        s.says("LINKS 0, 1, .. (10 at most) go from a NODE to another one,");
        s.laid("n2;g1;", "count(2) = 0", "link(0, 0) = BAD", "link(-1, 0) = BAD", "without(0) = BAD", "goes(0) = 0",
            "slot(1) = 0");
        s.laid("n2;g1;l0,1,1;", "count(2) = 1", "link(0, 0) = 0", "link(0, 1) = 1", "link(1, 0) = BAD");
        String nine = "n6;g0;" + "l5,4,1;".repeat(9);
        s.laid(nine, "count(2) = 9", "link(8, 0) = 5", "link(8, 1) = 4", "link(9, 0) = BAD");
        s.laid(nine + "l0,5,1;", "count(2) = 10", "link(9, 0) = 0", "link(9, 1) = 5", "link(10, 0) = BAD");
        s.faultIs(nine + "l0,5,1;l0,5,1;", nine.length() + 7);
        s.faultIs(nine + "l0,5,1;l9,9,9;", nine.length() + 7);
        for (int i = 0; i < 3; i++) {
            s.faultIs("n3;g2;l" + i + "," + i + ",1;", 6);
            s.faultIs("n3;g2;l" + i + "," + (i + 1) % 3 + ",1;", DropQueues.NONE);
        }
    }

    private void rooms() {
        s.says("each carries ROOM packets a SLOT (1 to 9);");
        s.faultIs("n2;g1;l0,1,0;", 6);
        s.faultIs("n2;g1;l0,1,00;", 6);
        s.faultIs("n2;g1;l0,1,10;", 6);
        s.faultIs("n2;g1;l0,1,19;", 6);
        for (int r = 1; r <= 9; r++) {
            Run run = s.laid("n2;g1;l0,1," + r + ";", "link(0, 2) = " + r, "put(0, 0, 40) = 40", "slot(1) = " + r);
            s.due(run, "queue(0, 0, 0)", 40 - r);
            s.due(run, "slot(2)", 2 * r);
        }
        s.laid("n2;g1;l0,1,9;", "put(0, 0, 8) = 8", "slot(1) = 8", "put(0, 0, 9) = 9", "slot(1) = 9",
            "put(0, 0, 10) = 10", "slot(1) = 9", "slot(1) = 1", "slot(1) = 0");
    }

    private void pairs() {
        s.says("pairs of LINKS may CLASH.");
        s.laid("n3;g2;l0,1,1;l1,2,1;", "count(3) = 0", "link(0, 6) = 0", "link(1, 6) = 0");
        s.laid("n3;g2;l0,1,1;l1,2,1;x1,0;", "count(3) = 1", "link(0, 6) = 2", "link(1, 6) = 1");
        Run all = Run.written("n2;g1;" + "l0,1,1;".repeat(10));
        all.ask("lay()");
        int pairs = 0;
        for (int a = 0; a < 10; a++) {
            for (int b = a + 1; b < 10; b++) {
                pairs++;
                s.due(all, "clash(" + b + ", " + a + ", 1)", pairs);
            }
        }
        for (int l = 0; l < 10; l++) {
            s.due(all, "link(" + l + ", 6)", 1023 - (1 << l));
        }
        s.due(all, "count(3)", 45);
    }

    private void queues() {
        s.says("At each NODE i and for each GOAL g, but where g is i, there is a QUEUE (of 40 packets at most; empty at first),");
        Run run = s.laid("n6;g5;g0;g3;");
        int[] goals = {5, 0, 3};
        for (int i = 0; i < 6; i++) {
            for (int g = 0; g < 3; g++) {
                boolean isQueue = goals[g] != i;
                s.due(run, "queue(" + i + ", " + g + ", 0)", isQueue ? 0 : DropQueues.BAD);
                s.due(run, "put(" + i + ", " + g + ", 40)", isQueue ? 40 : DropQueues.BAD);
                s.due(run, "put(" + i + ", " + g + ", 1)", isQueue ? DropQueues.FULL : DropQueues.BAD);
            }
        }
        s.go(run, "count(7) = 600", "count(10) = 24000", "count(9) = 0");
        s.laid("n2;g1;f0,0,1;", "put(0, 0, 39) = 39", "slot(1) = 0", "queue(0, 0, 0) = 40", "count(9) = 0",
            "slot(1) = 0", "queue(0, 0, 0) = 40", "count(9) = 1");
    }

    private void feeds() {
        s.says("FEED F packets come into it in each SLOT (0 to 9; 0 without).");
        s.laid("n2;g1;", "queue(0, 0, 2) = 0", "slot(60) = 0", "queue(0, 0, 0) = 0");
        s.laid("n2;g1;f0,0,0;", "queue(0, 0, 2) = 0", "slot(60) = 0", "queue(0, 0, 0) = 0");
        s.laid("n2;g1;f0,0,1;", "slot(1) = 0", "queue(0, 0, 0) = 1", "slot(38) = 0", "queue(0, 0, 0) = 39",
            "slot(1) = 0", "queue(0, 0, 0) = 40", "slot(1) = 0", "queue(0, 0, 0) = 40");
        s.laid("n2;g1;f0,0,9;", "queue(0, 0, 2) = 9", "slot(1) = 0", "queue(0, 0, 0) = 9", "slot(3) = 0",
            "queue(0, 0, 0) = 36");
        s.faultIs("n2;g1;f0,0,10;", 6);
        s.laid("n3;g1;g2;f0,0,2;f0,1,3;f2,0,4;f1,1,5;", "slot(1) = 0", "queue(0, 0, 0) = 2", "queue(0, 1, 0) = 3",
            "queue(2, 0, 0) = 4", "queue(1, 1, 0) = 5", "count(7) = 14");
    }

    private void queueAtItsGoal() {
        s.says("At a GOAL's NODE its QUEUE is 0 for ever.");
        s.laid("n3;g1;g2;l0,1,9;l1,2,9;", "put(0, 0, 40) = 40", "put(0, 1, 20) = 20", "drop(0, 0) = 1040",
            "slot(1) = 9", "drop(0, 0) = 1031", "drop(1, 0) = 1000", "put(1, 0, 1) = BAD", "feed(1, 0, 1) = BAD",
            "slot(3) = 18", "queue(1, 0, 0) = BAD", "drop(1, 0) = 1000", "queue(1, 1, 0) = 9", "goal(0, 4) = 13",
            "drawn(3, 60, 0) = 0", "slot(60) = 33", "drop(1, 0) = 1000");
        s.laid("n2;g0;g1;l0,1,1;l1,0,1;", "put(1, 0, 7) = 7", "drop(0, 0) = 993", "drop(1, 0) = 1007",
            "drop(0, 1) = 1000");
    }

    private void biases() {
        s.says("BIAS of a NODE for a GOAL: B (0 to 9) times how many LINKS lead there from that NODE at least,"
            + " one behind the other, the way they go (0 at the GOAL; 9 B, if none do).");
        s.faultIs("n2;g1;b10;", 6);
        String row = "n6;g5;l0,1,1;l1,2,1;l2,3,1;l3,4,1;l4,5,1;";
        for (int b = 0; b <= 9; b++) {
            Run run = s.laid(row + "b" + b + ";", "count(5) = " + b);
            for (int i = 0; i < 5; i++) {
                s.due(run, "queue(" + i + ", 0, 3)", b * (5 - i));
            }
            s.due(run, "drop(4, 0)", 1000 + b);
        }
        s.laid(row + "g0;b2;", "queue(1, 1, 3) = 18", "queue(5, 1, 3) = 18", "queue(4, 0, 3) = 2", "drop(0, 1) = 982");
        s.laid("n6;g5;l4,5,1;l3,4,1;l2,3,1;l1,2,1;l0,1,1;b9;", "queue(0, 0, 3) = 45", "queue(1, 0, 3) = 36");
        s.laid(row + "l0,4,1;b3;", "queue(0, 0, 3) = 6", "queue(1, 0, 3) = 12", "queue(2, 0, 3) = 9");
        s.laid(row + "l0,5,1;b3;", "queue(0, 0, 3) = 3", "queue(1, 0, 3) = 12");
        s.laid("n3;g2;b9;", "queue(0, 0, 3) = 81", "queue(1, 0, 3) = 81", "tell(1, 0) = 9", "queue(0, 0, 3) = 0",
            "tell(1, 1) = 0", "queue(0, 0, 3) = 9");
        s.laid("n4;g3;l0,1,1;l1,0,1;l3,0,1;b9;", "queue(0, 0, 3) = 81", "queue(2, 0, 3) = 81", "drop(0, 0) = 1000",
            "drop(2, 0) = 919");
    }
}
