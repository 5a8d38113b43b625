/** Terms, part 3: AHEAD, WITHOUT, WORST CLASH and DRAWN SLOTS. */
final class AheadBounds {
    private final Sentences s;

    AheadBounds(Sentences s) {
        this.s = s;
    }

    void all() {
        ahead();
        aheadAsDone();
        squaresAhead();
        without();
        worst();
        worstOfSeveral();
        drawn();
        drawnFromNowOn();
        drawnFeeds();
    }

    private void ahead() {
        s.says("AHEAD n SLOTS (1 to 60): SLOTS from now on, nothing changes by it: packets in all QUEUES then; THERE in them;"
            + " LOST in them; the greatest SQUARES behind any of them.");
        s.laid("n2;g1;l0,1,1;f0,0,2;", "ahead(0, 0) = BAD", "ahead(-1, 0) = BAD", "ahead(61, 0) = BAD", "ahead(1, 0) = 2",
            "ahead(2, 0) = 3", "ahead(1, 1) = 0", "ahead(2, 1) = 1", "ahead(39, 0) = 40", "ahead(39, 2) = 0",
            "ahead(40, 0) = 40", "ahead(40, 2) = 1", "ahead(59, 1) = 58", "ahead(60, 1) = 59", "ahead(59, 2) = 20",
            "ahead(60, 2) = 21", "count(6) = 0", "slot(50) = 49", "count(9) = 11", "ahead(1, 1) = 1", "ahead(1, 2) = 1",
            "ahead(60, 1) = 60", "ahead(60, 2) = 60", "ahead(60, 0) = 40", "ahead(60, 3) = 1600", "ahead(60, 4) = BAD");
    }

    /** What is told ahead is what comes. */
    private void aheadAsDone() {
        for (int n : new int[] {1, 2, 7, 59, 60}) {
            for (int before : new int[] {0, 3, 60}) {
                Run run = new Run();
                run.ask("put(0, 1, 33)");
                run.ask("feed(1, 0, 9)");
                run.ask("feed(1, 1, 7)");
                if (before > 0) {
                    run.ask("slot(" + before + ")");
                }
                Run done = run.again();
                int lost = done.ask("count(9)");
                int there = done.ask("slot(" + n + ")");
                s.due(run, "ahead(" + n + ", 0)", done.ask("count(7)"));
                s.due(run, "ahead(" + n + ", 1)", there);
                s.due(run, "ahead(" + n + ", 2)", done.ask("count(9)") - lost);
                Run steps = run.again();
                int most = 0;
                for (int k = 0; k < n; k++) {
                    steps.ask("slot(1)");
                    most = Math.max(most, steps.ask("count(10)"));
                }
                s.due(run, "ahead(" + n + ", 3)", most);
            }
        }
    }

    private void squaresAhead() {
        s.laid("n3;g2;l0,1,2;l1,2,1;", "put(0, 0, 5) = 5", "count(10) = 25", "ahead(1, 3) = 13", "ahead(2, 3) = 13",
            "ahead(60, 3) = 13");
        s.laid("n2;g1;f0,0,1;", "ahead(1, 3) = 1", "ahead(39, 3) = 1521", "ahead(40, 3) = 1600", "ahead(41, 3) = 1600");
        s.laid("n5;g4;l0,1,9;l1,3,9;l2,3,9;l3,4,1;b1;", "put(0, 0, 9) = 9", "put(2, 0, 9) = 9", "ahead(1, 3) = 162",
            "ahead(2, 3) = 289", "ahead(3, 3) = 289", "ahead(60, 3) = 289");
        s.laid("n2;g1;", "ahead(60, 3) = 0", "put(0, 0, 40) = 40", "ahead(60, 3) = 1600");
    }

    private void without() {
        s.says("WITHOUT a LINK: packets in all QUEUES behind 20 SLOTS from now on, were that LINK not to go"
            + " (nothing changes by it).");
        s.laid("n3;g2;l0,2,1;l1,2,1;", "put(0, 0, 40) = 40", "without(0) = 40", "without(1) = 20", "without(2) = BAD",
            "without(-1) = BAD", "ahead(19, 0) = 21", "ahead(20, 0) = 20", "ahead(21, 0) = 19", "slot(10) = 10",
            "without(1) = 10", "slot(9) = 9", "without(1) = 1", "slot(1) = 1", "without(1) = 0", "without(0) = 20");
        s.laid("n2;g1;l0,1,9;f0,0,1;", "without(0) = 20", "slot(1) = 0", "without(0) = 21", "feed(0, 0, 2) = 1",
            "without(0) = 40");
        s.laid("n2;g1;l0,1,2;l0,1,1;x0,1;", "put(0, 0, 40) = 40", "without(0) = 20", "without(1) = 0");
        s.laid("n3;g2;l0,1,1;l1,2,1;b9;", "put(0, 0, 3) = 3", "without(1) = 3", "without(0) = 3", "queue(0, 0, 3) = 18");
        s.laid("n4;g3;l0,3,9;l0,1,9;l1,2,9;l2,3,9;b9;", "put(0, 0, 5) = 5", "without(0) = 5", "put(0, 0, 4) = 9",
            "without(0) = 9", "put(0, 0, 1) = 10", "without(0) = 1", "ahead(20, 0) = 0");
        s.laid("n2;g1;" + "l0,1,1;".repeat(9) + "l0,1,9;", "put(0, 0, 40) = 40", "without(9) = 0", "without(10) = BAD");
        s.laid("n2;g1;l0,1,9;", "put(0, 0, 40) = 40", "without(0) = 40", "goes(0) = 1", "slot(1) = 9");
    }

    private void worst() {
        s.says("WORST CLASH: that pair of LINKS that CLASH without whose CLASH the WEIGHT of THE LINKS that go is greatest,"
            + " and greater than it is, of several the first (the lower LINK ahead, then the other one).");
        s.laid("n2;g1;", "worst(0) = NONE", "worst(1) = NONE", "worst(2) = NONE");
        s.laid("n3;g2;l0,2,1;l1,2,1;", "put(0, 0, 3) = 3", "put(1, 0, 3) = 3", "worst(0) = NONE", "clash(0, 1, 1) = 1",
            "worst(0) = 0", "worst(1) = 1", "worst(2) = 6", "goes(1) = 3", "clash(1, 0, 0) = 0", "worst(2) = NONE");
        s.laid("n3;g2;l0,2,1;l1,2,1;x0,1;", "worst(0) = NONE", "put(0, 0, 3) = 3", "worst(0) = NONE", "put(1, 0, 1) = 1",
            "worst(0) = 0", "worst(1) = 1", "worst(2) = 4");
        s.laid("n5;g4;l0,4,1;l1,4,1;l2,4,1;x0,2;x1,2;", "put(0, 0, 5) = 5", "put(1, 0, 5) = 5", "put(2, 0, 5) = 5",
            "worst(0) = NONE", "put(2, 0, 1) = 6", "worst(0) = 0", "worst(1) = 2", "worst(2) = 11", "put(1, 0, 1) = 6",
            "worst(0) = 1", "worst(1) = 2", "worst(2) = 12");
    }

    private void worstOfSeveral() {
        Run cross = s.laid("n5;g4;l0,4,1;l1,4,1;l2,4,1;l3,4,1;x1,2;x0,3;");
        for (int i = 0; i < 4; i++) {
            cross.ask("put(" + i + ", 0, 2)");
        }
        s.go(cross, "worst(0) = 0", "worst(1) = 3", "worst(2) = 6", "put(1, 0, 1) = 3", "worst(0) = 0", "put(2, 0, 1) = 3",
            "worst(0) = 1", "worst(1) = 2", "worst(2) = 8");
        Run star = s.laid("n5;g4;l0,4,1;l1,4,1;l2,4,1;x0,2;x0,1;x1,2;", "put(0, 0, 2) = 2", "put(1, 0, 2) = 2",
            "put(2, 0, 2) = 2");
        s.go(star, "worst(0) = 0", "worst(1) = 1", "worst(2) = 4", "put(2, 0, 1) = 3", "worst(0) = 0", "worst(1) = 2",
            "worst(2) = 5", "put(1, 0, 1) = 3", "worst(0) = 1", "worst(1) = 2", "worst(2) = 6");
        Run ten = s.laid("n3;g2;" + "l0,2,9;".repeat(8) + "l0,2,9;l1,2,1;x8,9;b9;", "put(0, 0, 40) = 40",
            "put(1, 0, 1) = 1");
        s.go(ten, "goes(1) = 3969", "worst(0) = 8", "worst(1) = 9", "worst(2) = 3979", "count(3) = 1");
    }

    private void drawn() {
        s.says("DRAWN SLOTS by z (0 to 9999), n (1 to 60) from now on (nothing changes by them): as SLOTS, but in the k-th"
            + " (0 first) FEED of NODE i for GOAL g is (DRAW by 8 to the power g, cut) modulo (2 F and 1, together),"
            + " DRAW being (x times x) modulo 65521, x 7919 z, 6151 k, 97 i and 1 together.");
        s.laid("n2;g1;f0,0,1;", "drawn(-1, 1, 0) = BAD", "drawn(10000, 1, 0) = BAD", "drawn(0, 0, 0) = BAD",
            "drawn(0, 61, 0) = BAD", "drawn(0, 1, -1) = BAD", "drawn(0, 1, 3) = BAD", "drawn(0, 1, 0) = 1");
        for (int z : new int[] {0, 1, 4999, 9998, 9999}) {
            drawnAt(s.laid("n2;g1;l0,1,9;f0,0,4;"), z, 0, 0);
            drawnAt(s.laid("n2;g0;l1,0,9;f1,0,4;"), z, 1, 0);
            drawnAt(s.laid("n6;g1;g2;l5,2,9;f5,1,4;"), z, 5, 1);
            drawnAt(s.laid("n6;g1;g2;g3;l5,3,9;f5,2,4;"), z, 5, 2);
        }
    }

    /** The one FEED, 4, comes into a QUEUE from which a LINK takes all that came the SLOT before. */
    private void drawnAt(Run run, int z, int i, int g) {
        int before = 0;
        int sum = 0;
        for (int n = 1; n <= 60; n++) {
            sum += before;
            before = draw(z, n - 1, i, g, 4);
            if (n < 4 || n > 58) {
                s.due(run, "drawn(" + z + ", " + n + ", 0)", before);
                s.due(run, "drawn(" + z + ", " + n + ", 1)", sum);
                s.due(run, "drawn(" + z + ", " + n + ", 2)", 0);
            }
        }
    }

    private static int draw(int z, int k, int i, int g, int f) {
        long x = 7919L * z + 6151L * k + 97L * i + 1;
        long cut = x * x % 65521;
        for (int power = 0; power < g; power++) {
            cut = cut / 8;
        }
        return (int) (cut % (2 * f + 1));
    }

    private void drawnFromNowOn() {
        s.laid("n2;g1;f0,0,9;", "drawn(0, 1, 0) = 1", "drawn(0, 2, 0) = 11", "slot(1) = 0", "drawn(0, 1, 0) = 10",
            "drawn(0, 2, 0) = 20", "put(0, 0, 20) = 29", "drawn(0, 2, 0) = 40", "drawn(0, 2, 2) = 0", "put(0, 0, 1) = 30",
            "drawn(0, 2, 0) = 40", "drawn(0, 2, 2) = 1", "slot(2) = 0", "count(9) = 8", "drawn(0, 2, 2) = 11",
            "drawn(0, 1, 2) = 1", "queue(0, 0, 2) = 9", "count(6) = 3");
        s.laid("n2;g1;l0,1,2;", "put(0, 0, 5) = 5", "slot(1) = 2", "drawn(9999, 1, 1) = 2", "drawn(9999, 60, 1) = 3",
            "drawn(9999, 60, 0) = 0");
    }

    private void drawnFeeds() {
        for (int f = 0; f <= 9; f++) {
            Run run = s.laid("n4;g1;g2;g3;f0,0," + f + ";f0,2," + f + ";");
            for (int z = 2; z < 8; z++) {
                s.due(run, "drawn(" + z + ", 1, 0)", draw(z, 0, 0, 0, f) + draw(z, 0, 0, 2, f));
            }
            int high = 0;
            while (draw(high, 0, 3, 1, f) != 2 * f) {
                high++;
            }
            s.laid("n4;g1;g2;f3,1," + f + ";", "drawn(" + high + ", 1, 0) = " + 2 * f);
        }
    }
}
