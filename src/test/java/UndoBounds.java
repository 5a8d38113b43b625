/** Terms: what a change is, and which can be UNDONE. */
final class UndoBounds {
    private static final String NET = "n4;g3;g1;l0,1,2;l1,3,1;l0,2,1;x0,2;f0,0,2;b1;";

    private final Sentences s;

    UndoBounds(Sentences s) {
        this.s = s;
    }

    void all() {
        changes();
        noChanges();
        lastFour();
        behindLaid();
    }

    private void changes() {
        s.says("A change: a packet put in, SLOTS done, a FEED, ROOM, LAW, B told anew, a CLASH or none.");
        String[] changes = {"put(0, 0, 1)", "put(2, 1, 40)", "slot(1)", "slot(60)", "feed(0, 0, 0)", "feed(2, 1, 9)",
            "room(0, 9)", "room(2, 9)", "tell(0, 1)", "tell(1, 0)", "tell(1, 9)", "clash(0, 1, 1)", "clash(2, 0, 0)"};
        for (String change : changes) {
            for (int ahead = 0; ahead <= 3; ahead++) {
                Run run = s.laid(NET);
                String[] first = {"slot(3)", "put(0, 1, 7)", "slot(9)"};
                for (int k = 0; k < ahead; k++) {
                    run.ask(first[k]);
                }
                Run undone = run.again();
                undone.ask(change);
                s.due(undone, "count(11)", ahead + 1);
                s.due(undone, "undo()", ahead);
                s.alike(run, undone);
            }
        }
    }

    private void noChanges() {
        Run run = s.laid(NET, "put(0, 0, 3) = 3", "count(11) = 1");
        String[] others = {"feed(0, 0, 2)", "room(0, 2)", "tell(0, 0)", "tell(1, 1)", "clash(0, 2, 1)", "clash(0, 1, 0)",
            "put(0, 0, 41)", "put(0, 0, 38)", "slot(0)", "slot(61)", "feed(3, 0, 1)", "room(0, 0)", "tell(2, 0)",
            "clash(0, 0, 1)", "ahead(60, 0)", "without(0)", "worst(0)", "drawn(1, 60, 0)", "write(10)", "fault()",
            "goes(0)", "queue(0, 0, 0)", "link(0, 5)", "goal(0, 3)", "drop(0, 0)"};
        for (String other : others) {
            run.ask(other);
            s.due(run, "count(11)", 1);
        }
        s.go(run, "wipe() = 45", "count(11) = 1", "write(110) = 1", "count(11) = 1", "lay() = NO", "count(11) = 1",
            "undo() = 0", "count(7) = 0", "count(12) = 1", "undo() = NO");
    }

    private void lastFour() {
        s.says("UNDONE is the latest change (the last 4 can be;");
        for (int n = 1; n <= 9; n++) {
            Run run = s.laid("n2;g1;");
            for (int f = 1; f <= n; f++) {
                s.due(run, "feed(0, 0, " + f + ")", f - 1);
                s.due(run, "count(11)", Math.min(4, f));
            }
            int can = Math.min(4, n);
            for (int k = 1; k <= can; k++) {
                s.due(run, "undo()", can - k);
                s.due(run, "queue(0, 0, 2)", n - k);
            }
            s.go(run, "undo() = NO", "queue(0, 0, 2) = " + (n - can), "feed(0, 0, 9) = " + (n == 9 ? 5 : n - can),
                "undo() = 0", "undo() = NO");
        }
        s.laid("n2;g1;", "feed(0, 0, 1) = 0", "feed(0, 0, 2) = 1", "undo() = 1", "feed(0, 0, 3) = 1", "count(11) = 2",
            "undo() = 1", "queue(0, 0, 2) = 1", "undo() = 0", "queue(0, 0, 2) = 0", "undo() = NO");
        Run many = s.laid("n2;g1;");
        for (int round = 0; round < 8; round++) {
            for (int f = 1; f <= 3; f++) {
                many.ask("feed(0, 0, " + (f + 3 * (round % 2)) + ")");
            }
            int now = 3 + 3 * (round % 2);
            s.due(many, "undo()", round == 0 ? 2 : 3);
            s.due(many, "queue(0, 0, 2)", now - 1);
            many.ask("feed(0, 0, " + now + ")");
        }
        s.go(many, "undo() = 3", "undo() = 2", "undo() = 1", "queue(0, 0, 2) = 3", "undo() = 0", "queue(0, 0, 2) = 2",
            "undo() = NO");
    }

    private void behindLaid() {
        s.says("behind LAID none can be).");
        s.written("n2;g1;", "feed(0, 0, 9) = 2", "slot(2) = 1", "count(11) = 2", "lay() = 2", "count(11) = 0", "undo() = NO",
            "count(0) = 2", "feed(0, 0, 1) = 0", "count(11) = 1", "undo() = 0", "undo() = NO", "count(0) = 2", "lay() = 2",
            "undo() = NO");
        s.written("n2;", "feed(0, 0, 9) = 2", "lay() = NO", "count(11) = 1", "undo() = 0", "queue(0, 0, 2) = 2");
        s.written("n2;g1;", "put(0, 0, 1) = 1", "put(0, 0, 1) = 2", "put(0, 0, 1) = 3", "put(0, 0, 1) = 4", "put(0, 0, 1) = 5",
            "lay() = 2", "put(0, 0, 7) = 7", "undo() = 0", "count(7) = 0", "undo() = NO");
    }
}
