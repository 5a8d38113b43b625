/** Terms, THE TEXT: its ITEMS, its FAULT and what is LAID. */
final class TextBounds {
    private static final int NONE = DropQueues.NONE;
    private static final String FIRST =
        "n5;g4;g2;l0,1,3;l1,4,2;l0,3,2;l3,4,2;l1,2,1;l3,2,2;l2,4,1;x0,2;x1,3;x4,5;f0,0,2;f0,1,1;f3,1,1;b1;";
    /** Every kind of ITEM but n once, with what a fine TEXT has ahead of it. */
    private static final String AHEAD = "n3;g2;l0,1,1;l1,2,1;";
    private static final String[] KINDS = {"g0", "l0,1,1", "x0,1", "f0,0,1", "b1", "o1"};

    private final Sentences s;

    TextBounds(Sentences s) {
        this.s = s;
    }

    void all() {
        letters();
        items();
        figures();
        itemN();
        itemG();
        itemL();
        itemX();
        itemF();
        itemB();
        itemO();
        faults();
        laid();
        atFirst();
    }

    private void letters() {
        s.says("THE TEXT is letters (200 at most).");
        String text = "n2;g1;" + "b9;".repeat(64) + "b1";
        s.written(text.substring(0, 198), "write(" + (int) ';' + ") = 199", "write(" + (int) ';' + ") = 200",
            "write(" + (int) ';' + ") = FULL", "count(12) = 200", "wipe() = 200", "count(12) = 0");
        s.written("n02;g01;" + "b9;".repeat(64), "count(12) = 200", "fault() = NONE", "write(120) = FULL",
            "fault() = NONE", "lay() = 2", "count(5) = 9");
        s.written(text, "count(12) = 200", "write(59) = FULL", "fault() = 198", "lay() = NO");
        s.written("n2;g1;" + "b9;".repeat(64) + " ", "count(12) = 199", "fault() = 198", "write(59) = 200", "fault() = 198",
            "write(59) = FULL", "fault() = 198");
    }

    private void items() {
        s.says("A TEXT is ITEMS one behind the other, a ; behind each;");
        s.faultIs("", NONE);
        s.faultIs("n3", 0);
        s.faultIs("n3;", NONE);
        s.faultIs(";", 0);
        s.faultIs(" ", 0);
        s.faultIs("n3;;", 3);
        s.faultIs(";n3;", 0);
        int end = AHEAD.length();
        for (String item : KINDS) {
            s.faultIs(AHEAD + item + ";", NONE);
            s.faultIs(AHEAD + item, end);
            s.faultIs(AHEAD + item + ":", end);
            s.faultIs(AHEAD + item + ",;", end);
            s.faultIs(AHEAD + item + " ;", end);
            s.faultIs(AHEAD + item + ",1;", end);
            s.faultIs(AHEAD + item + item + ";", end);
            s.faultIs(AHEAD + " " + item + ";", end);
            s.faultIs(AHEAD + ";" + item + ";", end);
            s.faultIs(AHEAD + item + ";;", end + item.length() + 1);
            s.faultIs(AHEAD + item.charAt(0) + " " + item.substring(1) + ";", end);
            s.faultIs(AHEAD + item.charAt(0) + "-" + item.substring(1) + ";", end);
            s.faultIs(AHEAD + item.charAt(0) + "+" + item.substring(1) + ";", end);
            s.faultIs(AHEAD + item.toUpperCase() + ";", end);
            s.faultIs(AHEAD + item.substring(1) + ";", end);
            s.faultIs(AHEAD + item.charAt(0) + ";", end);
        }
        for (char kind = 32; kind < 127; kind++) {
            if ("bo".indexOf(kind) < 0) {
                s.faultIs("n3;" + kind + "1;", kind == 'g' ? NONE : 3);
            }
        }
        for (String item : new String[] {"l0,1", "l0", "l0,1,1,1", "l0;1,1", "l0.1,1", "l,0,1", "l0,,1", "l0,1,", "x0", "x0,",
            "x,1", "x0,1,1", "f0,0", "f0", "f0,0,", "f0,,1", "f,0,1", "f0,0,1,", "b,", "b,1", "o,", "o,1", "g,", "g,1"}) {
            s.faultIs(AHEAD + item + ";", end);
        }
    }

    private void figures() {
        s.says("numbers have one or two figures:");
        String[] tellings = {"n%s3", "g%s2", "l%s0,1,1", "l0,%s1,1", "l0,1,%s1", "x%s0,1", "x0,%s1", "f%s0,0,1", "f0,%s0,1",
            "f0,0,%s1", "b%s1", "o%s1"};
        for (String telling : tellings) {
            String ahead = telling.startsWith("n") ? "" : telling.startsWith("g") ? "n3;" : AHEAD;
            s.faultIs(ahead + telling.replace("%s", "") + ";", NONE);
            s.faultIs(ahead + telling.replace("%s", "0") + ";", NONE);
            s.faultIs(ahead + telling.replace("%s", "00") + ";", ahead.length());
            s.faultIs(ahead + telling.replace("%s", "000000000000") + ";", ahead.length());
            s.faultIs(ahead + telling.replaceFirst("%s\\d", "") + ";", ahead.length());
            s.faultIs(ahead + telling.replaceFirst("%s\\d", "a") + ";", ahead.length());
            s.faultIs(ahead + telling.replaceFirst("%s\\d", "/") + ";", ahead.length());
            s.faultIs(ahead + telling.replaceFirst("%s\\d", ":") + ";", ahead.length());
        }
        s.written("n03;g02;l00,02,09;b05;o01;f00,00,07;", "lay() = 3", "link(0, 0) = 0", "link(0, 1) = 2", "link(0, 2) = 9", "count(5) = 5",
            "count(4) = 1", "queue(0, 0, 2) = 7", "goal(0, 0) = 2");
    }

    private void itemN() {
        s.says("nN there are N NODES; once, first of all ITEMS");
        s.laid("n4;g0;", "count(0) = 4");
        s.faultIs("n4;n4;", 3);
        s.faultIs("n4;g0;n5;", 6);
        s.faultIs("n4;n9;", 3);
        s.faultIs("n9;n4;", 0);
        for (String item : KINDS) {
            s.faultIs(item + ";n3;", 0);
            s.faultIs(item + ";", 0);
        }
    }

    private void itemG() {
        s.says("gI the next GOAL is NODE I (no other GOAL is)");
        s.laid("n4;g3;g0;g1;", "goal(0, 0) = 3", "goal(1, 0) = 0", "goal(2, 0) = 1");
        s.faultIs("n4;g3;g3;", 6);
        s.faultIs("n4;g3;g0;g3;", 9);
        s.faultIs("n4;g3;g0;g0;", 9);
        s.faultIs("n4;g3;g4;", 6);
        s.faultIs("n4;g99;", 3);
        s.laid("n4;l0,3,1;b1;g3;", "goal(0, 0) = 3", "queue(0, 0, 3) = 1");
    }

    private void itemL() {
        s.says("lI,J,R the next LINK, from NODE I to NODE J (unlike), ROOM R");
        s.laid("n3;g2;l0,1,3;l2,0,9;", "link(0, 0) = 0", "link(0, 1) = 1", "link(0, 2) = 3", "link(1, 0) = 2",
            "link(1, 1) = 0", "link(1, 2) = 9");
        for (String numbers : new String[] {"3,0,1", "0,3,1", "99,0,1", "0,99,1", "0,0,1", "2,2,1", "0,1,0", "0,1,10",
            "10,1,1"}) {
            s.faultIs("n3;g2;l" + numbers + ";", 6);
        }
        s.faultIs("n3;g2;l2,1,1;l1,2,9;", NONE);
        s.laid("n3;g2;l0,1,1;l0,1,2;l1,0,3;", "count(2) = 3", "link(1, 2) = 2", "link(2, 0) = 1");
    }

    private void itemX() {
        s.says("xA,B LINKS A and B (told ahead, unlike) CLASH");
        s.faultIs("n3;x0,1;l0,1,1;l1,2,1;", 3);
        s.faultIs("n3;l0,1,1;x0,1;l1,2,1;", 10);
        s.faultIs("n3;l0,1,1;x1,0;l1,2,1;", 10);
        s.faultIs("n3;l0,1,1;l1,2,1;x0,1;", NONE);
        s.faultIs("n3;l0,1,1;l1,2,1;x0,0;", 17);
        s.faultIs("n3;l0,1,1;l1,2,1;x1,1;", 17);
        s.faultIs("n3;l0,1,1;l1,2,1;x0,2;", 17);
        s.faultIs("n3;l0,1,1;l1,2,1;x2,0;", 17);
        s.faultIs("n3;l0,1,1;l1,2,1;x0,99;", 17);
        s.faultIs("n3;l0,1,1;l1,2,1;x10,1;", 17);
        s.laid("n3;g2;l0,1,1;l1,2,1;l0,2,1;x2,0;", "count(3) = 1", "link(0, 6) = 4", "link(1, 6) = 0", "link(2, 6) = 1");
        s.laid("n3;g2;l0,1,1;l1,2,1;x1,0;x0,1;x0,1;", "count(3) = 1", "link(0, 6) = 2", "clash(0, 1, 0) = 0");
    }

    private void itemF() {
        s.says("fI,G,F FEED of NODE I for GOAL G (told ahead, not NODE I) is F (the last one of each)");
        s.faultIs("n3;f0,0,1;g2;", 3);
        s.faultIs("n3;g2;f0,0,1;", NONE);
        s.faultIs("n3;g2;f0,1,1;g0;", 6);
        s.faultIs("n3;g2;g1;f0,1,1;", NONE);
        s.faultIs("n3;g2;g1;f0,2,1;", 9);
        s.faultIs("n3;g2;g1;f2,0,1;", 9);
        s.faultIs("n3;g2;g1;f2,0,0;", 9);
        s.faultIs("n3;g2;g1;f1,1,1;", 9);
        s.faultIs("n3;g2;g1;f1,0,1;f2,1,1;", NONE);
        s.faultIs("n3;g2;f3,0,1;", 6);
        s.faultIs("n3;g2;f99,0,1;", 6);
        s.faultIs("n3;g2;f0,99,1;", 6);
        s.faultIs("n3;g2;f0,0,0;", NONE);
        s.faultIs("n3;g2;f0,0,9;", NONE);
        s.faultIs("n3;g2;f0,0,10;", 6);
        s.laid("n3;g2;g1;f0,0,9;f0,1,8;f1,0,7;f0,0,3;f1,0,0;", "queue(0, 0, 2) = 3", "queue(0, 1, 2) = 8",
            "queue(1, 0, 2) = 0", "queue(2, 1, 2) = 0");
    }

    private void itemB() {
        s.says("bB BIAS by B (0 without; of several the last one counts)");
        s.laid("n3;g2;l0,2,1;", "count(5) = 0", "queue(0, 0, 3) = 0");
        s.laid("n3;g2;l0,2,1;b0;", "count(5) = 0");
        s.laid("n3;g2;l0,2,1;b9;", "count(5) = 9", "queue(0, 0, 3) = 9", "queue(1, 0, 3) = 81");
        s.laid("n3;g2;l0,2,1;b9;b2;b4;", "count(5) = 4", "queue(0, 0, 3) = 4");
        s.laid("n3;b9;g2;l0,2,1;b0;", "count(5) = 0", "queue(0, 0, 3) = 0");
        s.faultIs("n3;b10;", 3);
        s.faultIs("n3;b9;b10;b9;", 6);
    }

    private void itemO() {
        s.says("oK LAW: 0 FIRST, 1 LAST (0 without; of several the last one counts)");
        s.laid("n3;g2;", "count(4) = 0");
        s.laid("n3;g2;o0;", "count(4) = 0");
        s.laid("n3;g2;o1;", "count(4) = 1");
        s.laid("n3;g2;o1;o0;", "count(4) = 0");
        s.laid("n3;o0;g2;o1;", "count(4) = 1");
        s.faultIs("n3;o2;", 3);
        s.faultIs("n3;o1;o10;o1;", 6);
        s.laid("n2;g1;f0,0,1;", "slot(2) = 0", "queue(0, 0, 1) = 1");
        s.laid("n2;g1;f0,0,1;o1;", "slot(2) = 0", "queue(0, 0, 1) = 2");
    }

    private void faults() {
        s.says("FAULT: the place of the first letter of the first ITEM that is not so (or is one too many).");
        s.faultIs("x", 0);
        s.faultIs("n3;x", 3);
        s.faultIs("n3;g9;b99;", 3);
        s.faultIs("n3;b99;g9;", 3);
        s.faultIs("n3;g2;b9;o1;b8;o9", 15);
        s.faultIs("n3;g0;g1;g2;g2;", 12);
        s.faultIs("n2;" + "l0,1,1;".repeat(10), NONE);
        s.faultIs("n2;" + "l0,1,1;".repeat(11), 73);
        s.faultIs("n2;" + "l0,1,1;".repeat(10) + "q;l0,1,1;", 73);
        s.faultIs("n02;b09;" + "o1;".repeat(64), NONE);
        s.faultIs("n02;b9;" + "o1;".repeat(64) + "b", 199);
        s.faultIs("n02;b9;" + "o1;".repeat(64) + ";", 199);
        s.written("n3;g9", "fault() = 3", "wipe() = 5", "fault() = NONE", "write(103) = 1", "fault() = 0");
    }

    private void laid() {
        s.says("LAID is a TEXT without FAULT with a GOAL at least (NO else;");
        s.written("", "fault() = NONE", "lay() = NO");
        s.written("n6;", "fault() = NONE", "lay() = NO");
        s.written("n6;l0,1,1;l1,2,1;x0,1;b1;o1;", "fault() = NONE", "lay() = NO", "count(0) = 5");
        s.written("n6;g0", "lay() = NO", "write(59) = 6", "lay() = 6");
        s.written("n6;g0;g0;", "lay() = NO");
        s.written("n6;g0;", "put(0, 0, 3) = 3", "slot(1) = 0", "lay() = 6", "write(32) = 7", "lay() = NO", "count(0) = 6");
    }

    private void atFirst() {
        s.says("at first " + FIRST + ").");
        Run fresh = new Run();
        Run laid = s.laid(FIRST);
        laid.ask("wipe()");
        s.go(fresh, "count(0) = 5", "count(1) = 2", "count(2) = 7", "count(3) = 3", "count(4) = 0", "count(5) = 1",
            "goal(0, 0) = 4", "goal(1, 0) = 2");
        int[][] links = {{0, 1, 3, 4}, {1, 4, 2, 8}, {0, 3, 2, 1}, {3, 4, 2, 2}, {1, 2, 1, 32}, {3, 2, 2, 16}, {2, 4, 1, 0}};
        for (int l = 0; l < links.length; l++) {
            s.go(fresh, "link(" + l + ", 0) = " + links[l][0], "link(" + l + ", 1) = " + links[l][1],
                "link(" + l + ", 2) = " + links[l][2], "link(" + l + ", 6) = " + links[l][3]);
        }
        int[][] feeds = {{2, 1}, {0, 0}, {0, DropQueues.BAD}, {0, 1}, {DropQueues.BAD, 0}};
        for (int i = 0; i < feeds.length; i++) {
            s.due(fresh, "queue(" + i + ", 0, 2)", feeds[i][0]);
            s.due(fresh, "queue(" + i + ", 1, 2)", feeds[i][1]);
        }
        s.alike(new Run(), laid);
    }
}
