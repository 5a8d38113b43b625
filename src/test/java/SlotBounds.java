/** Terms, part 2: DROP, CHOICE, WEIGHT, THE LINKS that go, and A SLOT. */
final class SlotBounds {
    /** While LINK 0 CLASHES with the heavy LINK 1, packets of unlike age can gather at NODE 0. */
    private static final String HELD = "n4;g2;l0,1,2;l3,2,9;x0,1;";

    private final Sentences s;

    SlotBounds(Sentences s) {
        this.s = s;
    }

    void all() {
        drops();
        choices();
        choicesByBias();
        weights();
        setsByWeight();
        setsAlike();
        aheadOfTheSlot();
        taking();
        laws();
        wrapAround();
        coming();
        there();
        lost();
        feeds();
        numbers();
        delays();
        squares();
    }

    private void drops() {
        s.says("DROP of a LINK for a GOAL: its QUEUE and BIAS at the LINK's first NODE less those at its second one.");
        s.laid("n3;g2;l0,1,1;", "drop(0, 0) = 1000", "put(0, 0, 1) = 1", "drop(0, 0) = 1001", "put(1, 0, 2) = 2",
            "drop(0, 0) = 999", "put(1, 0, 38) = 40", "drop(0, 0) = 961", "put(0, 0, 39) = 40", "drop(0, 0) = 1000");
        s.laid("n2;g1;l0,1,1;b9;", "drop(0, 0) = 1009", "put(0, 0, 40) = 40", "drop(0, 0) = 1049");
        s.laid("n3;g0;l0,1,1;b9;", "drop(0, 0) = 919", "put(1, 0, 40) = 40", "drop(0, 0) = 879");
        s.laid("n4;g2;g3;l0,1,1;l1,2,1;b4;", "put(0, 0, 3) = 3", "put(0, 1, 5) = 5", "put(1, 0, 2) = 2",
            "drop(0, 0) = 1005", "drop(0, 1) = 1005", "drop(1, 0) = 1006", "drop(1, 1) = 1000");
    }

    private void choices() {
        s.says("A LINK's CHOICE is the GOAL of the greatest DROP, of several the lowest, but of those alone that have a packet"
            + " at its first NODE; none, if there is none, or that DROP is 0 or less.");
        s.laid("n4;g2;g3;l0,1,1;", "link(0, 3) = NONE", "put(0, 1, 1) = 1", "link(0, 3) = 1", "put(0, 0, 1) = 1",
            "link(0, 3) = 0", "put(0, 1, 1) = 2", "link(0, 3) = 1", "put(1, 1, 1) = 1", "link(0, 3) = 0",
            "put(1, 0, 1) = 1", "link(0, 3) = 1", "put(1, 1, 1) = 2", "link(0, 3) = NONE", "put(1, 1, 1) = 3",
            "link(0, 3) = NONE");
        s.laid("n5;g2;g3;g4;l0,1,1;", "put(0, 2, 2) = 2", "link(0, 3) = 2", "put(0, 1, 2) = 2", "link(0, 3) = 1",
            "put(0, 0, 2) = 2", "link(0, 3) = 0", "put(0, 2, 1) = 3", "link(0, 3) = 2", "put(0, 1, 2) = 4",
            "link(0, 3) = 1");
        s.laid("n4;g2;g3;l0,1,1;", "put(1, 0, 2) = 2", "link(0, 3) = NONE", "put(0, 0, 1) = 1", "link(0, 3) = NONE",
            "put(0, 0, 1) = 2", "link(0, 3) = NONE", "put(0, 0, 1) = 3", "link(0, 3) = 0");
    }

    private void choicesByBias() {
        s.laid("n4;g2;g3;l0,1,1;l1,2,1;b9;", "drop(0, 0) = 1009", "link(0, 3) = NONE", "put(0, 1, 1) = 1",
            "link(0, 3) = 1", "put(1, 1, 1) = 1", "drop(0, 1) = 1000", "drop(0, 0) = 1009", "link(0, 3) = NONE",
            "put(0, 0, 1) = 1", "link(0, 3) = 0");
        s.laid("n3;g2;l0,1,1;l1,2,1;b1;", "put(0, 0, 1) = 1", "put(1, 0, 1) = 1", "drop(0, 0) = 1001", "link(0, 3) = 0",
            "put(1, 0, 1) = 2", "drop(0, 0) = 1000", "link(0, 3) = NONE", "put(1, 0, 1) = 3", "link(0, 3) = NONE");
        s.laid("n3;g0;l0,1,1;", "put(1, 0, 3) = 3", "link(0, 3) = NONE", "slot(1) = 0", "queue(1, 0, 0) = 3");
    }

    private void weights() {
        s.says("WEIGHT of a LINK: ROOM times the DROP of its CHOICE (0 without).");
        s.laid("n3;g2;l0,2,1;l0,2,9;l0,1,9;l1,2,9;b9;", "link(0, 4) = 0", "drop(0, 0) = 1009", "put(0, 0, 1) = 1",
            "link(0, 4) = 10", "link(1, 4) = 90", "link(2, 4) = 9", "link(3, 4) = 0", "put(0, 0, 39) = 40",
            "link(0, 4) = 49", "link(1, 4) = 441", "room(1, 1) = 9", "link(1, 4) = 49");
        s.laid("n3;g2;l0,1,9;", "put(0, 0, 3) = 3", "put(1, 0, 2) = 2", "link(0, 4) = 9", "put(1, 0, 1) = 3",
            "link(0, 4) = 0", "put(1, 0, 1) = 4", "link(0, 4) = 0");
    }

    private void setsByWeight() {
        s.says("THE LINKS that go: of all sets of LINKS with a CHOICE, no two of which CLASH, that of the greatest WEIGHT"
            + " together, of several that of the fewest, of several the least as bits (the LINKS' numbers).");
        s.laid("n2;g1;", "goes(0) = 0", "goes(1) = 0");
        s.laid("n3;g2;l0,1,1;l1,2,1;l0,2,1;", "goes(0) = 0", "goes(1) = 0", "put(0, 0, 1) = 1", "goes(0) = 5",
            "goes(1) = 2", "put(1, 0, 1) = 1", "goes(0) = 6", "link(0, 5) = 0", "link(1, 5) = 1", "link(2, 5) = 1");
        s.laid("n5;g4;l0,4,1;l1,4,1;l2,4,1;x0,1;x1,2;", "put(0, 0, 3) = 3", "put(2, 0, 4) = 4", "put(1, 0, 6) = 6",
            "goes(0) = 5", "goes(1) = 7", "put(1, 0, 1) = 7", "goes(0) = 2", "goes(1) = 7", "put(1, 0, 1) = 8",
            "goes(0) = 2", "goes(1) = 8");
        Run ten = s.laid("n2;g1;" + "l0,1,9;".repeat(10) + "b9;", "put(0, 0, 40) = 40", "goes(0) = 1023",
            "goes(1) = 4410");
        s.go(ten, "room(3, 8) = 9", "goes(0) = 1023", "goes(1) = 4361");
        for (int l = 0; l < 10; l++) {
            if (l != 7) {
                ten.ask("clash(7, " + l + ", 1)");
            }
        }
        s.go(ten, "goes(0) = 895", "goes(1) = 3920");
        s.go(ten, "slot(1) = 40");
    }

    private void setsAlike() {
        s.laid("n5;g4;l0,4,1;l1,4,1;l2,4,1;x0,2;x1,2;", "put(0, 0, 2) = 2", "put(1, 0, 2) = 2", "put(2, 0, 4) = 4",
            "goes(0) = 4", "put(0, 0, 1) = 3", "goes(0) = 3");
        s.laid("n3;g2;l0,2,1;l1,2,1;x0,1;", "put(0, 0, 2) = 2", "put(1, 0, 1) = 1", "goes(0) = 1", "put(1, 0, 1) = 2",
            "goes(0) = 1", "put(1, 0, 1) = 3", "goes(0) = 2");
        Run pairs = s.laid("n5;g4;l0,4,1;l1,4,1;l2,4,1;l3,4,1;x0,1;x0,2;x3,1;x3,2;");
        for (int i = 0; i < 4; i++) {
            pairs.ask("put(" + i + ", 0, 5)");
        }
        s.go(pairs, "goes(0) = 6", "put(3, 0, 1) = 6", "goes(0) = 9", "put(2, 0, 1) = 6", "goes(0) = 6");
        Run three = s.laid("n6;g5;l0,5,1;l1,5,1;l2,5,1;l3,5,1;l4,5,1;x0,3;x0,4;x1,3;x1,4;x2,3;x2,4;");
        for (int i = 0; i < 3; i++) {
            three.ask("put(" + i + ", 0, 2)");
        }
        s.go(three, "put(3, 0, 3) = 3", "put(4, 0, 2) = 2", "goes(0) = 7", "put(4, 0, 1) = 3", "goes(0) = 24",
            "goes(1) = 6");
    }

    private void aheadOfTheSlot() {
        s.says("A SLOT: all by how QUEUES are ahead of it,");
        s.laid("n3;g2;l0,1,9;l1,2,9;", "put(0, 0, 5) = 5", "slot(1) = 0", "queue(1, 0, 0) = 5", "slot(1) = 5");
        s.laid("n3;g2;l1,2,9;l0,1,9;", "put(0, 0, 5) = 5", "slot(1) = 0", "queue(1, 0, 0) = 5", "slot(1) = 5");
        s.laid("n4;g3;l0,1,3;l1,2,3;", "put(0, 0, 3) = 3", "put(1, 0, 3) = 3", "slot(1) = 0", "queue(0, 0, 0) = 3",
            "queue(1, 0, 0) = 0", "queue(2, 0, 0) = 3");
        s.laid("n2;g1;l0,1,9;f0,0,9;", "slot(1) = 0", "slot(1) = 9");
    }

    private void taking() {
        s.says("LINKS that go take, LINK 0 first, of their CHOICE as many packets as ROOM, and as there are still:");
        String fork = "n4;g3;l0,1,3;l0,2,3;";
        int[][] went = {{1, 1, 0}, {2, 2, 0}, {3, 3, 0}, {4, 3, 1}, {5, 3, 2}, {6, 3, 3}, {7, 3, 3}, {40, 3, 3}};
        for (int[] w : went) {
            Run run = s.laid(fork, "put(0, 0, " + w[0] + ") = " + w[0], "slot(1) = 0");
            s.due(run, "queue(1, 0, 0)", w[1]);
            s.due(run, "queue(2, 0, 0)", w[2]);
            s.due(run, "queue(0, 0, 0)", w[0] - w[1] - w[2]);
        }
        s.laid("n4;g2;g3;l0,1,3;", "put(0, 0, 4) = 4", "put(0, 1, 2) = 2", "slot(1) = 0", "queue(1, 0, 0) = 3",
            "queue(1, 1, 0) = 0", "queue(0, 0, 0) = 1", "queue(0, 1, 0) = 2");
        s.laid("n2;g1;" + "l0,1,9;".repeat(10), "put(0, 0, 40) = 40", "slot(1) = 40", "slot(1) = 0");
    }

    private void laws() {
        s.says("these leave the first NODE's QUEUE by LAW, one by one (FIRST: of those there the one that came into it first;"
            + " LAST: the one that came last).");
        s.laid("n2;g1;l0,1,1;", "put(0, 0, 2) = 2", "slot(1) = 1", "put(0, 0, 1) = 2", "queue(0, 0, 1) = 0",
            "slot(1) = 1", "goal(0, 2) = 3", "queue(0, 0, 1) = 1", "slot(1) = 1", "goal(0, 2) = 5", "queue(0, 0, 1) = NONE");
        s.laid("n2;g1;l0,1,1;o1;", "put(0, 0, 2) = 2", "slot(1) = 1", "put(0, 0, 1) = 2", "queue(0, 0, 1) = 1",
            "slot(1) = 1", "goal(0, 2) = 2", "queue(0, 0, 1) = 0", "slot(1) = 1", "goal(0, 2) = 5", "queue(0, 0, 1) = NONE");
        s.laid("n2;g1;l0,1,2;o1;", "put(0, 0, 3) = 3", "slot(1) = 2", "put(0, 0, 1) = 2", "slot(1) = 2",
            "goal(0, 2) = 5", "goal(0, 3) = 2");
        s.laid("n2;g1;l0,1,1;", "put(0, 0, 2) = 2", "slot(1) = 1", "put(0, 0, 1) = 2", "tell(0, 1) = 0",
            "queue(0, 0, 1) = 1", "slot(1) = 1", "goal(0, 2) = 2", "tell(0, 0) = 1", "queue(0, 0, 1) = 0");
    }

    /** A QUEUE that stays full while all its packets change, by either LAW. */
    private void wrapAround() {
        Run run = s.laid("n2;g1;l0,1,9;f0,0,9;", "put(0, 0, 40) = 40");
        for (int n = 1; n <= 22; n++) {
            s.go(run, "slot(1) = 9", "queue(0, 0, 0) = 40");
            s.due(run, "queue(0, 0, 1)", 9 * n < 40 ? 0 : (9 * n - 40) / 9 + 1);
        }
        s.go(run, "count(9) = 0", "goal(0, 1) = 198", "tell(0, 1) = 0", "queue(0, 0, 1) = 22", "slot(1) = 9",
            "queue(0, 0, 1) = 23", "feed(0, 0, 0) = 9", "slot(1) = 9", "queue(0, 0, 1) = 21", "slot(3) = 27",
            "queue(0, 0, 1) = 18", "slot(1) = 4", "queue(0, 0, 1) = NONE", "put(0, 0, 40) = 40", "queue(0, 0, 1) = 28",
            "tell(0, 0) = 1", "queue(0, 0, 1) = 28",
            "slot(5) = 40", "queue(0, 0, 1) = NONE");
    }

    private void coming() {
        s.says("When all have taken, these packets come, those of LINK 0 first, one by one as they left, into the second NODE's"
            + " QUEUE behind all there;");
        s.laid("n3;g2;l0,1,9;l1,2,9;b9;", "put(0, 0, 40) = 40", "put(1, 0, 40) = 40", "slot(1) = 9",
            "queue(1, 0, 0) = 40", "count(9) = 0");
        s.laid("n3;g2;l0,1,9;l1,2,8;b9;", "put(0, 0, 40) = 40", "put(1, 0, 40) = 40", "slot(1) = 8",
            "queue(1, 0, 0) = 40", "count(9) = 1");
        String[] gather = {"put(3, 0, 40) = 40", "put(0, 0, 1) = 1", "slot(1) = 9", "put(0, 0, 1) = 2", "clash(0, 1, 0) = 0",
            "slot(1) = 9", "queue(1, 0, 0) = 2"};
        s.go(s.laid(HELD, gather), "queue(1, 0, 1) = 0", "tell(0, 1) = 0", "queue(1, 0, 1) = 1");
        s.go(s.laid(HELD + "o1;", gather), "queue(1, 0, 1) = 0", "tell(0, 0) = 1", "queue(1, 0, 1) = 1");
        s.laid(HELD, "put(3, 0, 40) = 40", "put(0, 0, 3) = 3", "slot(1) = 9", "put(1, 0, 1) = 1", "clash(0, 1, 0) = 0",
            "slot(1) = 9", "queue(1, 0, 0) = 3", "queue(1, 0, 1) = 1", "tell(0, 1) = 0", "queue(1, 0, 1) = 0");
        String join = "n4;g3;l0,2,1;l1,2,1;";
        s.laid(join, "put(2, 0, 1) = 1", "put(1, 0, 1) = 1", "slot(1) = 0", "put(0, 0, 2) = 2", "put(1, 0, 1) = 2",
            "slot(1) = 0", "queue(2, 0, 0) = 3", "tell(0, 1) = 0", "queue(2, 0, 1) = 0");
        s.laid(join, "put(2, 0, 1) = 1", "put(0, 0, 1) = 1", "slot(1) = 0", "put(1, 0, 2) = 2", "put(0, 0, 1) = 2",
            "slot(1) = 0", "queue(2, 0, 0) = 3", "tell(0, 1) = 0", "queue(2, 0, 1) = 1");
    }

    private void there() {
        s.says("at the GOAL they are THERE.");
        s.laid("n3;g1;g2;l0,1,9;l1,2,9;", "put(0, 1, 1) = 1", "slot(1) = 0", "queue(1, 1, 0) = 1", "count(8) = 0",
            "slot(1) = 1", "count(8) = 1", "goal(1, 1) = 1", "goal(0, 1) = 0", "count(7) = 0", "put(0, 0, 9) = 9",
            "slot(1) = 9", "goal(0, 1) = 9", "count(8) = 10", "count(9) = 0", "slot(60) = 0");
    }

    private void lost() {
        s.says("What does not find place in a QUEUE (40) is LOST.");
        for (int full = 29; full <= 39; full++) {
            Run run = s.laid("n3;g2;l0,1,9;", "put(0, 0, 40) = 40", "put(1, 0, " + full + ") = " + full, "slot(1) = 0",
                "queue(0, 0, 0) = 31");
            s.due(run, "queue(1, 0, 0)", Math.min(40, full + 9));
            s.due(run, "count(9)", Math.max(0, full + 9 - 40));
        }
        s.laid("n3;g2;l0,1,9;", "put(0, 0, 40) = 40", "put(1, 0, 40) = 40", "slot(1) = 0", "queue(0, 0, 0) = 40",
            "count(9) = 0");
        s.laid("n4;g3;l0,2,1;l1,2,1;", "put(2, 0, 39) = 39", "put(0, 0, 39) = 39", "slot(1) = 0", "put(0, 0, 1) = 40",
            "put(1, 0, 40) = 40", "slot(1) = 0", "count(9) = 1", "queue(2, 0, 0) = 40", "tell(0, 1) = 0",
            "queue(2, 0, 1) = 0", "queue(1, 0, 0) = 39", "goal(0, 1) = 0");
    }

    private void feeds() {
        s.says("Then FEEDS come in, NODE by NODE, GOAL by GOAL, each packet BORN in this SLOT; what finds no place is LOST.");
        s.laid("n2;g1;f0,0,9;", "put(0, 0, 31) = 31", "slot(1) = 0", "queue(0, 0, 0) = 40", "count(9) = 0");
        s.laid("n2;g1;f0,0,9;", "put(0, 0, 32) = 32", "slot(1) = 0", "queue(0, 0, 0) = 40", "count(9) = 1");
        s.laid("n2;g1;f0,0,9;", "put(0, 0, 40) = 40", "slot(1) = 0", "queue(0, 0, 0) = 40", "count(9) = 9", "slot(59) = 0",
            "count(9) = 540");
        s.laid("n3;g2;l0,1,1;f1,0,1;", "put(0, 0, 40) = 40", "put(1, 0, 39) = 39", "slot(1) = 0", "count(9) = 1",
            "tell(0, 1) = 0", "queue(1, 0, 1) = 0");
        s.laid("n2;g1;l0,1,9;f0,0,9;", "put(0, 0, 40) = 40", "slot(1) = 9", "count(9) = 0", "queue(0, 0, 0) = 40");
        s.laid("n2;g1;f0,0,1;", "queue(0, 0, 1) = NONE", "slot(1) = 0", "queue(0, 0, 1) = 1", "slot(3) = 0",
            "queue(0, 0, 1) = 1", "tell(0, 1) = 0", "queue(0, 0, 1) = 4");
        s.laid("n6;g0;g1;g2;f5,0,1;f5,1,2;f5,2,3;f0,1,4;f0,2,5;f2,0,9;", "slot(1) = 0", "queue(5, 0, 0) = 1",
            "queue(5, 1, 0) = 2", "queue(5, 2, 0) = 3", "queue(0, 1, 0) = 4", "queue(0, 2, 0) = 5", "queue(2, 0, 0) = 9",
            "count(7) = 24");
    }

    private void numbers() {
        s.says("SLOTS are numbered 1, 2, ..");
        s.laid("n2;g1;", "count(6) = 0", "put(0, 0, 1) = 1", "queue(0, 0, 1) = 0", "slot(1) = 0", "count(6) = 1",
            "slot(1) = 0", "count(6) = 2", "feed(0, 0, 1) = 0", "slot(60) = 0", "count(6) = 62", "tell(0, 1) = 0",
            "queue(0, 0, 0) = 40", "queue(0, 0, 1) = 41", "undo() = 3", "undo() = 2", "count(6) = 2");
    }

    private void delays() {
        s.says("DELAY of a packet that is THERE: the SLOT in which it came there less that in which it was BORN.");
        s.laid("n2;g1;l0,1,9;", "put(0, 0, 1) = 1", "slot(1) = 1", "goal(0, 2) = 1", "slot(5) = 0", "put(0, 0, 1) = 1",
            "slot(1) = 1", "goal(0, 2) = 2", "goal(0, 3) = 1");
        s.laid("n2;g1;l0,1,9;f0,0,1;", "slot(1) = 0", "goal(0, 2) = 0", "goal(0, 3) = NONE", "slot(1) = 1", "goal(0, 2) = 1",
            "slot(58) = 58", "goal(0, 2) = 59", "goal(0, 3) = 1");
        s.laid("n6;g5;l0,1,9;l1,2,9;l2,3,9;l3,4,9;l4,5,9;", "put(0, 0, 9) = 9", "slot(4) = 0", "slot(1) = 9",
            "goal(0, 2) = 45", "goal(0, 3) = 5");
        s.laid("n3;g2;l0,1,1;l1,2,1;", "put(1, 0, 1) = 1", "put(0, 0, 1) = 1", "slot(1) = 1", "slot(1) = 0", "slot(1) = 1",
            "goal(0, 2) = 4", "goal(0, 3) = 3");
        s.laid("n2;g1;l0,1,1;", "put(0, 0, 40) = 40", "slot(40) = 40", "goal(0, 2) = 820",
            "goal(0, 3) = 40");
    }

    private void squares() {
        s.says("SQUARES: of all QUEUES how many packets, times itself, together.");
        s.laid("n3;g1;g2;", "count(10) = 0", "put(0, 0, 1) = 1", "count(10) = 1", "put(0, 1, 2) = 2", "count(10) = 5",
            "put(2, 0, 3) = 3", "count(10) = 14", "put(1, 1, 40) = 40", "count(10) = 1614", "put(0, 0, 39) = 40",
            "count(10) = 3213", "undo() = 3", "count(10) = 1614");
    }
}
