/** One method for each promise, with answers worked out by hand from the document. */
public final class PromiseTest {
    private static final int BAD = DropQueues.BAD, NO = DropQueues.NO, FULL = DropQueues.FULL, NONE = DropQueues.NONE;
    private static final String FIRST =
        "n5;g4;g2;l0,1,3;l1,4,2;l0,3,2;l3,4,2;l1,2,1;l3,2,2;l2,4,1;x0,2;x1,3;x4,5;f0,0,2;f0,1,1;f3,1,1;b1;";
    /** Two LINKS in a row to the one GOAL, no BIAS. */
    private static final String ROW = "n3;g2;l0,1,2;l1,2,1;";
    private static final int[] FAR = {Integer.MIN_VALUE, -1000, -1, 1000, Integer.MAX_VALUE};
    private static final Checks CHECKS = new Checks();

    public static void main(String[] args) {
        promise1NewObject();
        promise2Write();
        promise3Wipe();
        promise4Fault();
        promise4Limits();
        promise5Lay();
        promise6Feed();
        promise7Room();
        promise8Tell();
        promise9Clash();
        promise10Put();
        promise11Slot();
        promise11Order();
        promise11Law();
        promise11Long();
        promise11Lost();
        promise12Undo();
        promise12Packets();
        promise13Queue();
        promise14Link();
        promise15Drop();
        promise16Goes();
        promise17Goal();
        promise18Ahead();
        promise19Without();
        promise20Worst();
        promise21Drawn();
        promise22Count();
        allLimits();
        badAheadOfAll();
        exampleOfReadme();
        CHECKS.end("PromiseTest");
    }

    private static void due(String call, int got, int want) {
        CHECKS.due(call, got, want);
    }

    private static DropQueues written(String text) {
        DropQueues x = new DropQueues();
        rewrite(x, text);
        return x;
    }

    private static void rewrite(DropQueues x, String text) {
        x.wipe();
        for (int k = 0; k < text.length(); k++) {
            x.write(text.charAt(k));
        }
    }

    private static DropQueues laid(String text) {
        DropQueues x = written(text);
        due("lay() of " + text, x.lay(), text.charAt(1) - '0');
        return x;
    }

    private static void counts(DropQueues x, String when, int... want) {
        for (int what = 0; what < want.length; what++) {
            due(when + ": count(" + what + ")", x.count(what), want[what]);
        }
    }

    private static void faultIs(String text, int want) {
        due("fault() of " + text, written(text).fault(), want);
    }

    private static void promise1NewObject() {
        DropQueues x = new DropQueues();
        counts(x, "new", 5, 2, 7, 3, 0, 1, 0, 0, 0, 0, 0, 0, 0);
        DropQueues y = laid(FIRST);
        due("undo() of a new object", x.undo(), NO);
        for (int l = 0; l < 7; l++) {
            for (int what = 0; what <= 6; what++) {
                due("new: link(" + l + ", " + what + ")", x.link(l, what), y.link(l, what));
            }
        }
        for (int i = 0; i < 5; i++) {
            for (int g = 0; g < 2; g++) {
                for (int what = 0; what <= 3; what++) {
                    due("new: queue(" + i + ", " + g + ", " + what + ")", x.queue(i, g, what), y.queue(i, g, what));
                }
            }
        }
        due("new: feed of NODE 3 for GOAL 1", x.queue(3, 1, 2), 1);
        due("new: goal(0, 0)", x.goal(0, 0), 4);
        due("new: lay(), THE TEXT is empty", x.lay(), NO);
    }

    private static void promise2Write() {
        DropQueues x = new DropQueues();
        due("write(31)", x.write(31), BAD);
        due("write(127)", x.write(127), BAD);
        due("write(32)", x.write(32), 1);
        due("write(126)", x.write(126), 2);
        for (int far : FAR) {
            due("write(" + far + ")", x.write(far), BAD);
        }
        for (int n = 3; n <= 200; n++) {
            due("letter " + n, x.write('a'), n);
        }
        due("letter 201", x.write('a'), FULL);
        due("BAD ahead of FULL", x.write(31), BAD);
        due("count(12) when full", x.count(12), 200);
        due("wipe() when full", x.wipe(), 200);
        due("write behind wipe", x.write('n'), 1);
    }

    private static void promise3Wipe() {
        DropQueues x = laid(ROW);
        due("wipe()", x.wipe(), ROW.length());
        due("wipe() again", x.wipe(), 0);
        due("count(12)", x.count(12), 0);
        due("fault()", x.fault(), NONE);
        due("what is laid stays", x.count(0), 3);
    }

    private static void promise4Fault() {
        faultIs("", NONE);
        faultIs("n2;", NONE);
        faultIs(FIRST, NONE);
        faultIs("n06;g00;l00,05,09;l5,0,1;x00,01;f05,00,09;b09;o01;", NONE);
        faultIs("n;", 0);
        faultIs("n2", 0);
        faultIs("n002;", 0);
        faultIs("n1;", 0);
        faultIs("n7;", 0);
        faultIs("n2,;", 0);
        faultIs("n2,2;", 0);
        faultIs("n 2;", 0);
        faultIs("N2;", 0);
        faultIs(";", 0);
        faultIs("b1;n2;", 0);
        faultIs("n2;;", 3);
        faultIs("n2; ", 3);
        faultIs("n2;n2;", 3);
        faultIs("n2;g1", 3);
        faultIs("n2;g2;", 3);
        faultIs("n2;g0;g1;g0;", 9);
        faultIs("n2;g0;l0,1;", 6);
        faultIs("n2;g0;l0,1,1,1;", 6);
        faultIs("n2;g0;l0,,1;", 6);
        faultIs("n2;g0;l1,,1;", 6);
        faultIs("n2;g0;l,0,1;", 6);
        faultIs("n2;g0;l,1,1;", 6);
        faultIs("n2;g0;f1,,1;", 6);
        faultIs("n2;g0;b;", 6);
        faultIs("n2;g0;o;", 6);
        faultIs("n2;g0;l0,1,;", 6);
        faultIs("n2;g0;l1,1,1;", 6);
        faultIs("n2;g0;l2,1,1;", 6);
        faultIs("n2;g0;l1,2,1;", 6);
        faultIs("n2;g0;l0,1,0;", 6);
        faultIs("n2;g0;l0,1,10;", 6);
        faultIs("n2;x0,1;l0,1,1;l0,1,1;", 3);
        faultIs("n2;l0,1,1;l0,1,1;x0,2;", 17);
        faultIs("n2;l0,1,1;l0,1,1;x1,1;", 17);
        faultIs("n2;l0,1,1;l0,1,1;x1,0;x0,1;", NONE);
        faultIs("n2;f1,0,1;g0;", 3);
        faultIs("n2;g0;f0,0,1;", 6);
        faultIs("n2;g0;f1,1,1;", 6);
        faultIs("n2;g0;f2,0,1;", 6);
        faultIs("n2;g0;f1,0,10;", 6);
        faultIs("n2;g0;f1,0,0;f1,0,9;", NONE);
        faultIs("n2;b10;", 3);
        faultIs("n2;b0;b9;b0;", NONE);
        faultIs("n2;o2;", 3);
        faultIs("n2;o0;o1;o1;", NONE);
        faultIs("n2;q1;", 3);
    }

    private static void promise4Limits() {
        faultIs("n4;g0;g1;g2;", NONE);
        faultIs("n4;g0;g1;g2;g3;", 12);
        StringBuilder ten = new StringBuilder("n2;");
        for (int l = 0; l < 10; l++) {
            ten.append("l0,1,1;");
        }
        faultIs(ten.toString(), NONE);
        faultIs(ten + "x9,0;", NONE);
        faultIs(ten + "x9,10;", ten.length());
        faultIs(ten + "l0,1,1;", ten.length());
        StringBuilder full = new StringBuilder("n02;");
        while (full.length() < 200) {
            full.append("b09;");
        }
        faultIs(full.toString(), NONE);
        full.setCharAt(199, '9');
        faultIs(full.toString(), 196);
    }

    private static void promise5Lay() {
        DropQueues x = new DropQueues();
        x.put(0, 0, 3);
        for (String text : new String[] {"", "n2;", "n2;l0,1,1;", "n2;g0;;", "g0;", "n2;g0"}) {
            rewrite(x, text);
            due("lay() of '" + text + "'", x.lay(), NO);
        }
        counts(x, "lay() that was NO", 5, 2, 7, 3, 0, 1, 0, 3, 0, 0, 9, 1, 5);
        due("a fault in THE TEXT does not spoil what is laid", x.goal(0, 0), 4);
        due("undo() goes on", x.undo(), 0);
        x.feed(0, 0, 9);
        x.slot(60);
        CHECKS.holds("something got lost", x.count(9) > 0);
        rewrite(x, "n6;g5;l0,5,4;o1;o0;o1;b3;b7;f0,0,3;f0,0,0;");
        due("lay()", x.lay(), 6);
        counts(x, "laid", 6, 1, 1, 0, 1, 7, 0, 0, 0, 0, 0, 0, 42);
        due("the last FEED counts", x.queue(0, 0, 2), 0);
        due("FEED of what was laid ahead is gone", x.queue(3, 0, 2), 0);
        due("undo() behind lay()", x.undo(), NO);
        due("no DELAYS", x.goal(0, 2), 0);
        due("no greatest one", x.goal(0, 3), NONE);
        x.put(0, 0, 1);
        x.slot(1);
        due("DELAYS begin anew", x.goal(0, 2), 1);
        due("the greatest one, too", x.goal(0, 3), 1);
        rewrite(x, "n2;g1;");
        due("lay() without LINKS", x.lay(), 2);
        counts(x, "laid without LINKS", 2, 1, 0, 0, 0, 0);
        due("lay() again, THE TEXT stays", x.lay(), 2);
        due("slot() without LINKS", x.slot(1), 0);
        due("goes(0) without LINKS", x.goes(0), 0);
        due("link(0, 0) without LINKS", x.link(0, 0), BAD);
        due("worst(0) without LINKS", x.worst(0), NONE);
        rewrite(x, "n4;g1;g2;g3;l0,3,1;l0,1,1;l0,2,1;x2,0;x0,2;");
        x.lay();
        due("a pair told twice is one pair", x.count(3), 1);
    }

    private static void promise6Feed() {
        DropQueues x = laid("n3;g2;g0;f1,0,4;");
        due("feed(1, 0, 9)", x.feed(1, 0, 9), 4);
        due("feed(1, 0, 0)", x.feed(1, 0, 0), 9);
        due("feed(1, 0, 0) again", x.feed(1, 0, 0), NO);
        due("feed(0, 1, 1) at the GOAL", x.feed(0, 1, 1), BAD);
        due("feed(2, 0, 0) at the GOAL", x.feed(2, 0, 0), BAD);
        due("feed(1, 0, 10)", x.feed(1, 0, 10), BAD);
        due("feed(3, 0, 1)", x.feed(3, 0, 1), BAD);
        due("feed(1, 2, 1)", x.feed(1, 2, 1), BAD);
        due("changes", x.count(11), 2);
        due("feed(2, 1, 3)", x.feed(2, 1, 3), 0);
        x.slot(2);
        due("fed twice", x.queue(2, 1, 0), 6);
        due("queue(2, 1, 2)", x.queue(2, 1, 2), 3);
    }

    private static void promise7Room() {
        DropQueues x = laid(ROW);
        due("room(0, 9)", x.room(0, 9), 2);
        due("room(0, 9) again", x.room(0, 9), NO);
        due("room(0, 0)", x.room(0, 0), BAD);
        due("room(0, 10)", x.room(0, 10), BAD);
        due("room(2, 1)", x.room(2, 1), BAD);
        due("room(1, 1)", x.room(1, 1), NO);
        due("changes", x.count(11), 1);
        due("link(0, 2)", x.link(0, 2), 9);
        x.put(0, 0, 9);
        x.slot(1);
        due("nine went", x.queue(1, 0, 0), 9);
    }

    private static void promise8Tell() {
        DropQueues x = laid(ROW);
        due("tell(0, 1)", x.tell(0, 1), 0);
        due("tell(0, 1) again", x.tell(0, 1), NO);
        due("tell(0, 0)", x.tell(0, 0), 1);
        due("tell(0, 2)", x.tell(0, 2), BAD);
        due("tell(1, 9)", x.tell(1, 9), 0);
        due("tell(1, 9) again", x.tell(1, 9), NO);
        due("tell(1, 10)", x.tell(1, 10), BAD);
        due("tell(2, 0)", x.tell(2, 0), BAD);
        due("tell(1, 0)", x.tell(1, 0), 9);
        due("tell(1, 0) again", x.tell(1, 0), NO);
        due("undo() of that", x.undo(), 3);
        due("count(4)", x.count(4), 0);
        due("count(5)", x.count(5), 9);
        due("queue(0, 0, 3)", x.queue(0, 0, 3), 18);
        due("changes", x.count(11), 3);
    }

    private static void promise9Clash() {
        DropQueues x = laid("n3;g2;l0,1,1;l1,2,1;l0,2,1;");
        due("clash(2, 0, 1)", x.clash(2, 0, 1), 1);
        due("clash(0, 2, 1)", x.clash(0, 2, 1), NO);
        due("clash(1, 2, 1)", x.clash(1, 2, 1), 2);
        due("clash(0, 1, 0)", x.clash(0, 1, 0), NO);
        due("link(2, 6)", x.link(2, 6), 3);
        due("link(0, 6)", x.link(0, 6), 4);
        due("clash(0, 2, 0)", x.clash(0, 2, 0), 1);
        due("link(0, 6) then", x.link(0, 6), 0);
        due("clash(1, 1, 0)", x.clash(1, 1, 0), BAD);
        due("clash(1, 1, 1)", x.clash(1, 1, 1), BAD);
        due("clash(3, 1, 1)", x.clash(3, 1, 1), BAD);
        due("clash(1, 3, 1)", x.clash(1, 3, 1), BAD);
        due("clash(0, 1, 2)", x.clash(0, 1, 2), BAD);
        due("clash(0, 1, -1)", x.clash(0, 1, -1), BAD);
        due("changes", x.count(11), 3);
    }

    private static void promise10Put() {
        DropQueues x = laid("n3;g2;g1;l0,2,1;");
        due("put(1, 0, 40)", x.put(1, 0, 40), 40);
        due("put(1, 0, 1)", x.put(1, 0, 1), FULL);
        due("put(1, 0, 41)", x.put(1, 0, 41), BAD);
        due("put(1, 0, 0)", x.put(1, 0, 0), BAD);
        due("put(2, 0, 1)", x.put(2, 0, 1), BAD);
        due("put(1, 1, 1)", x.put(1, 1, 1), BAD);
        due("put(3, 0, 1)", x.put(3, 0, 1), BAD);
        due("put(0, 2, 1)", x.put(0, 2, 1), BAD);
        due("changes", x.count(11), 1);
        due("LOST", x.count(9), 0);
        due("BORN ahead of the first SLOT", x.queue(1, 0, 1), 0);
        x.slot(7);
        due("put(0, 1, 39)", x.put(0, 1, 39), 39);
        due("put(0, 1, 2)", x.put(0, 1, 2), FULL);
        due("put(0, 1, 1)", x.put(0, 1, 1), 40);
        due("BORN in the SLOT done last", x.queue(0, 1, 1), 7);
    }

    private static void promise11Slot() {
        DropQueues x = laid(ROW);
        x.put(0, 0, 5);
        int[] there = {0, 1, 1, 1, 1, 0, 1};
        int[] q0 = {3, 1, 1, 1, 1, 0, 0};
        int[] q1 = {2, 3, 2, 1, 0, 1, 0};
        for (int k = 0; k < there.length; k++) {
            due("SLOT " + (k + 1), x.slot(1), there[k]);
            due("QUEUE at 0 behind SLOT " + (k + 1), x.queue(0, 0, 0), q0[k]);
            due("QUEUE at 1 behind SLOT " + (k + 1), x.queue(1, 0, 0), q1[k]);
        }
        due("DELAYS", x.goal(0, 2), 2 + 3 + 4 + 5 + 7);
        due("the greatest", x.goal(0, 3), 7);
        DropQueues y = laid(ROW);
        y.put(0, 0, 5);
        due("slot(7)", y.slot(7), 5);
        due("one change", y.count(11), 2);
        due("slot(0)", y.slot(0), BAD);
        due("slot(61)", y.slot(61), BAD);
        due("slot(60)", y.slot(60), 0);
        due("SLOTS done", y.count(6), 67);
    }

    private static void promise11Order() {
        DropQueues x = laid("n3;g2;l0,1,2;l1,2,1;o1;");
        x.put(1, 0, 5);
        x.put(0, 0, 1);
        x.slot(1);
        x.put(0, 0, 1);
        x.slot(4);
        due("both came along", x.queue(1, 0, 0), 2);
        due("LAST: the one that came last left first, so the old one came last", x.queue(1, 0, 1), 0);
        x.tell(0, 0);
        due("FIRST: the young one came first", x.queue(1, 0, 1), 1);

        DropQueues y = laid("n4;g3;l0,2,1;l1,2,1;");
        y.put(2, 0, 1);
        y.put(1, 0, 1);
        y.slot(1);
        y.put(0, 0, 2);
        y.put(1, 0, 1);
        y.slot(1);
        due("three at NODE 2", y.queue(2, 0, 0), 3);
        y.tell(0, 1);
        due("those of LINK 0 come first", y.queue(2, 0, 1), 0);

        DropQueues z = laid("n4;g3;l0,1,3;l0,2,3;l0,2,3;");
        z.put(0, 0, 4);
        z.slot(1);
        due("LINK 0 takes first", z.queue(1, 0, 0), 3);
        due("LINK 1 what is still there", z.queue(2, 0, 0), 1);
        due("nothing is left", z.queue(0, 0, 0), 0);
    }

    /** Two packets of unlike age at NODE 0 and one LINK for one packet a SLOT. */
    private static void promise11Law() {
        for (int law = 0; law <= 1; law++) {
            DropQueues x = laid("n3;g2;g1;l0,2,1;f0,1,2;");
            x.tell(0, law);
            x.put(0, 0, 2);
            x.put(0, 1, 3);
            x.slot(1);
            due("the GOAL of the greatest DROP went", x.queue(0, 0, 0), 2);
            x.put(0, 0, 6);
            x.slot(1);
            due("LAW " + law + ": one came THERE", x.goal(0, 1), 1);
            due("LAW " + law + ": its DELAY", x.goal(0, 2), law == 0 ? 2 : 1);
            due("LAW " + law + ": the next one", x.queue(0, 0, 1), law == 0 ? 0 : 1);
            x.feed(0, 1, 0);
            x.slot(60);
            due("LAW " + law + ": all came THERE", x.goal(0, 1), 8);
            due("LAW " + law + ": packets of the other GOAL stay at NODE 2", x.queue(2, 1, 0) + x.queue(0, 1, 0), 7);
        }
    }

    /** Forty packets and more go round and round through one QUEUE, so that its store must wrap. */
    private static void promise11Long() {
        DropQueues x = laid("n2;g1;l0,1,3;f0,0,3;");
        x.put(0, 0, 37);
        for (int n = 1; n <= 60; n++) {
            due("three a SLOT", x.slot(1), 3);
            int left = 37 - 3 * n;
            int oldest = left > 0 ? 0 : 1 + -left / 3;
            due("the oldest behind SLOT " + n, x.queue(0, 0, 1), oldest);
        }
        due("as many as at first", x.queue(0, 0, 0), 37);
        int delays = x.goal(0, 2);
        int greatest = x.goal(0, 3);
        x.tell(0, 1);
        due("the youngest", x.queue(0, 0, 1), 60);
        x.slot(9);
        due("LAST: each waits one SLOT", x.goal(0, 2), delays + 9 * 3);
        due("the greatest stays", x.goal(0, 3), greatest);
        due("undo()", x.undo(), 3);
        due("undo()", x.undo(), 2);
        due("the oldest again", x.queue(0, 0, 1), 60 - 12);
        due("DELAYS again", x.goal(0, 2), delays);
    }

    private static void promise11Lost() {
        DropQueues x = laid("n3;g2;l0,1,9;");
        x.put(0, 0, 40);
        x.put(1, 0, 39);
        x.slot(1);
        due("one found place", x.queue(1, 0, 0), 40);
        due("eight LOST", x.count(9), 8);
        x.feed(0, 0, 9);
        x.slot(1);
        due("FEED fills", x.queue(0, 0, 0), 40);
        due("none LOST by that", x.count(9), 8);
        x.slot(1);
        due("FEED that finds no place is LOST", x.count(9), 17);

        DropQueues y = laid("n3;g2;l0,1,9;l1,2,2;f1,0,1;");
        y.put(0, 0, 40);
        y.put(1, 0, 39);
        due("two THERE", y.slot(1), 2);
        due("those that left make place, the FEED comes last", y.count(9), 6 + 1);
        due("full", y.queue(1, 0, 0), 40);
    }

    private static void promise12Undo() {
        DropQueues x = laid("n3;g2;l0,1,2;l1,2,1;x0,1;f0,0,1;");
        due("undo() at first", x.undo(), NO);
        x.put(0, 0, 5);
        x.slot(9);
        int there = x.goal(0, 1);
        int delays = x.goal(0, 2);
        int born = x.queue(0, 0, 1);
        CHECKS.holds("some are THERE", there > 0);
        x.feed(1, 0, 9);
        x.room(0, 9);
        x.tell(0, 1);
        x.tell(1, 3);
        x.clash(0, 1, 0);
        x.slot(60);
        due("four can be UNDONE", x.count(11), 4);
        due("undo() of slot", x.undo(), 3);
        due("SLOTS", x.count(6), 9);
        due("THERE", x.goal(0, 1), there);
        due("DELAYS", x.goal(0, 2), delays);
        due("LOST", x.count(9), 0);
        due("undo() of clash", x.undo(), 2);
        due("pairs", x.count(3), 1);
        due("undo() of tell B", x.undo(), 1);
        due("B", x.count(5), 0);
        due("undo() of tell LAW", x.undo(), 0);
        due("LAW", x.count(4), 0);
        due("BORN", x.queue(0, 0, 1), born);
        due("undo() of the fifth", x.undo(), NO);
        due("ROOM stays", x.link(0, 2), 9);
        due("FEED stays", x.queue(1, 0, 2), 9);
        x.room(0, 3);
        x.feed(1, 0, 2);
        x.put(1, 0, 1);
        x.wipe();
        x.write('n');
        due("undo() of put", x.undo(), 2);
        due("undo() of feed", x.undo(), 1);
        due("FEED", x.queue(1, 0, 2), 9);
        due("undo() of room", x.undo(), 0);
        due("ROOM", x.link(0, 2), 9);
        due("THE TEXT is not of it", x.count(12), 1);
        x.put(0, 0, 41);
        x.room(0, 9);
        x.tell(1, 0);
        x.slot(0);
        due("what was refused is no change", x.undo(), NO);
    }

    /** What a SLOT takes from a QUEUE far back in the store comes back in its order. */
    private static void promise12Packets() {
        DropQueues x = laid("n6;g0;l5,4,1;l4,0,1;f5,0,1;");
        x.put(4, 0, 3);
        x.slot(2);
        x.put(5, 0, 20);
        due("the oldest at NODE 5", x.queue(5, 0, 1), 1);
        int greatest = x.goal(0, 3);
        due("the greatest DELAY", greatest, 2);
        x.slot(40);
        CHECKS.holds("others leave", x.queue(5, 0, 1) > 1);
        CHECKS.holds("a greater DELAY", x.goal(0, 3) > greatest);
        due("undo()", x.undo(), 3);
        due("the oldest again", x.queue(5, 0, 1), 1);
        due("the greatest DELAY again", x.goal(0, 3), greatest);
        x.put(5, 0, 1);
        due("all of them", x.queue(5, 0, 0), 23);
        x.tell(0, 1);
        due("the youngest", x.queue(5, 0, 1), 2);
    }

    private static void promise13Queue() {
        DropQueues x = laid("n5;g2;g4;l0,1,1;l1,2,1;l2,4,1;l0,2,1;b2;f0,0,3;");
        due("queue(0, 0, 0)", x.queue(0, 0, 0), 0);
        due("queue(0, 0, 1) of none", x.queue(0, 0, 1), NONE);
        due("queue(0, 0, 2)", x.queue(0, 0, 2), 3);
        due("the shortest way", x.queue(0, 0, 3), 2);
        due("three LINKS less one", x.queue(0, 1, 3), 4);
        due("from NODE 1", x.queue(1, 1, 3), 4);
        due("no way back", x.queue(4, 0, 3), 18);
        due("no LINK at all", x.queue(3, 1, 3), 18);
        x.slot(2);
        x.tell(0, 1);
        due("LAST", x.queue(0, 0, 1), 2);
        x.tell(0, 0);
        due("FIRST", x.queue(0, 0, 1), 1);
        due("at the GOAL", x.queue(2, 0, 0), BAD);
        due("at the other GOAL", x.queue(2, 1, 0), 0);
        due("queue(5, 0, 0)", x.queue(5, 0, 0), BAD);
        due("queue(0, 2, 0)", x.queue(0, 2, 0), BAD);
        due("queue(0, 0, 4)", x.queue(0, 0, 4), BAD);
        DropQueues far = laid("n6;g5;l4,5,1;l3,4,1;l2,3,1;l1,2,1;l0,1,1;b9;");
        due("five LINKS", far.queue(0, 0, 3), 45);
        DropQueues back = laid("n6;g5;l0,1,1;l1,2,1;l2,3,1;l3,4,1;l4,5,1;b9;");
        due("five LINKS told from the start", back.queue(0, 0, 3), 45);
    }

    private static void promise14Link() {
        DropQueues x = laid("n4;g2;g3;l0,1,2;l1,0,1;l0,3,1;x0,2;");
        x.put(0, 0, 3);
        x.put(0, 1, 3);
        int[][] want = {{0, 1, 2, 0, 6, 1, 4}, {1, 0, 1, NONE, 0, 0, 0}, {0, 3, 1, 0, 3, 0, 1}};
        for (int l = 0; l < want.length; l++) {
            for (int what = 0; what < 7; what++) {
                due("link(" + l + ", " + what + ")", x.link(l, what), want[l][what]);
            }
        }
        x.put(0, 1, 1);
        due("the greatest DROP", x.link(0, 3), 1);
        due("WEIGHT", x.link(0, 4), 8);
        x.put(1, 1, 4);
        due("then the other one", x.link(0, 3), 0);
        x.put(1, 0, 3);
        due("DROP 0 is none", x.link(0, 3), NONE);
        due("link(3, 0)", x.link(3, 0), BAD);
        due("link(0, 7)", x.link(0, 7), BAD);
        DropQueues y = laid("n3;g2;g1;l0,2,1;b5;");
        y.put(0, 1, 1);
        due("without a packet no CHOICE, whatever the BIAS", y.drop(0, 0), 1005);
        due("of those alone that have a packet", y.link(0, 3), 1);
        DropQueues z = laid("n3;g2;g1;l0,2,1;l0,1,1;l2,1,1;b5;");
        z.put(0, 1, 1);
        due("drop(0, 0)", z.drop(0, 0), 1005);
        due("drop(0, 1)", z.drop(0, 1), 1001);
        due("that of the packet", z.link(0, 3), 1);
        due("and its WEIGHT", z.link(0, 4), 1);
    }

    private static void promise15Drop() {
        DropQueues x = laid("n4;g2;g3;l0,1,2;l1,2,1;l2,0,1;b3;");
        due("drop(0, 0)", x.drop(0, 0), 1003);
        due("drop(0, 1)", x.drop(0, 1), 1000);
        due("drop(1, 0)", x.drop(1, 0), 1003);
        due("from the GOAL", x.drop(2, 0), 994);
        x.put(0, 0, 7);
        x.put(1, 0, 9);
        due("drop(0, 0) then", x.drop(0, 0), 1001);
        due("drop(1, 0) then", x.drop(1, 0), 1012);
        due("drop(2, 0) then", x.drop(2, 0), 987);
        due("drop(3, 0)", x.drop(3, 0), BAD);
        due("drop(0, 2)", x.drop(0, 2), BAD);
    }

    private static void promise16Goes() {
        DropQueues x = laid("n5;g4;l1,4,1;l2,4,1;l0,4,2;x0,2;x1,2;");
        due("none", x.goes(0), 0);
        x.put(0, 0, 2);
        x.put(1, 0, 2);
        x.put(2, 0, 2);
        due("of several that of the fewest", x.goes(0), 4);
        due("WEIGHT together", x.goes(1), 4);
        x.put(1, 0, 1);
        due("the greatest WEIGHT", x.goes(0), 3);
        due("WEIGHT then", x.goes(1), 5);
        x.clash(0, 1, 1);
        due("all CLASH", x.goes(0), 4);
        promise16Ties();
        DropQueues y = laid("n5;g4;l1,4,1;l2,4,1;l0,4,1;x0,2;x1,2;x0,1;");
        y.put(0, 0, 2);
        y.put(1, 0, 2);
        y.put(2, 0, 2);
        due("the least as bits", y.goes(0), 1);
        due("goes(2)", y.goes(2), BAD);
        due("goes(-1)", y.goes(-1), BAD);
        DropQueues z = laid("n5;g4;l0,4,1;l1,4,1;l2,4,1;l3,4,1;x0,1;x2,3;x0,3;x1,2;");
        for (int i = 0; i < 4; i++) {
            z.put(i, 0, 1);
        }
        due("the least as bits, of pairs", z.goes(0), 5);
        z.clash(0, 2, 1);
        due("another pair", z.goes(0), 10);
    }

    private static void promise16Ties() {
        DropQueues two = laid("n6;g5;l0,5,1;l1,5,1;l2,5,1;l3,5,1;l4,5,1;x0,1;x0,2;x0,3;x1,4;x2,4;x3,4;");
        int[] packets = {3, 2, 2, 2, 3};
        for (int i = 0; i < packets.length; i++) {
            two.put(i, 0, packets[i]);
        }
        due("two as heavy as three that are less as bits", two.goes(0), 17);
        DropQueues even = laid("n5;g4;l0,4,1;l1,4,1;l2,4,1;l3,4,1;x0,1;x0,2;x3,1;x3,2;");
        for (int i = 0; i < 4; i++) {
            even.put(i, 0, 7);
        }
        due("as many, less as bits", even.goes(0), 6);
    }

    private static void promise17Goal() {
        DropQueues x = laid("n4;g3;g1;l0,1,3;l1,3,1;");
        due("goal(0, 0)", x.goal(0, 0), 3);
        due("goal(1, 0)", x.goal(1, 0), 1);
        due("goal(1, 3) of none", x.goal(1, 3), NONE);
        x.put(0, 1, 5);
        x.put(2, 1, 4);
        x.put(0, 0, 2);
        due("packets for GOAL 1", x.goal(1, 4), 9);
        due("packets for GOAL 0", x.goal(0, 4), 2);
        x.slot(1);
        due("THERE", x.goal(1, 1), 3);
        due("DELAYS", x.goal(1, 2), 3);
        due("the greatest", x.goal(1, 3), 1);
        due("none of GOAL 0", x.goal(0, 1), 0);
        x.slot(1);
        due("THERE, tie to the lowest GOAL", x.goal(1, 1), 3);
        x.slot(1);
        due("THERE then", x.goal(1, 1), 5);
        due("DELAYS then", x.goal(1, 2), 9);
        due("the greatest then", x.goal(1, 3), 3);
        due("packets left", x.goal(1, 4), 4);
        x.put(0, 1, 1);
        x.slot(1);
        due("a DELAY of 1", x.goal(1, 2), 10);
        due("the greatest stays", x.goal(1, 3), 3);
        due("goal(2, 0)", x.goal(2, 0), BAD);
        due("goal(0, 5)", x.goal(0, 5), BAD);
    }

    private static void promise18Ahead() {
        DropQueues x = laid(ROW);
        x.put(0, 0, 5);
        int[] packets = {5, 4, 3, 2, 1, 1, 0};
        for (int n = 1; n <= 7; n++) {
            due("ahead(" + n + ", 0)", x.ahead(n, 0), packets[n - 1]);
            due("ahead(" + n + ", 1)", x.ahead(n, 1), 5 - packets[n - 1]);
            due("ahead(" + n + ", 2)", x.ahead(n, 2), 0);
            due("ahead(" + n + ", 3), SQUARES now (25) not among them", x.ahead(n, 3), 13);
        }
        counts(x, "nothing changed", 3, 1, 2, 0, 0, 0, 0, 5, 0, 0, 25, 1);
        x.slot(3);
        due("THERE in them alone", x.ahead(4, 1), 3);
        DropQueues b = laid("n3;g2;l0,1,1;l1,2,1;b9;");
        b.put(0, 0, 1);
        b.put(1, 0, 9);
        due("BIAS steers ahead, too", b.ahead(1, 3), 9 * 9);
        b.tell(1, 0);
        due("without BIAS the short QUEUE waits", b.ahead(1, 3), 1 + 8 * 8);
        DropQueues y = laid("n3;g2;l0,1,9;f0,0,9;");
        y.put(0, 0, 40);
        y.put(1, 0, 39);
        y.slot(1);
        due("LOST so far", y.count(9), 8);
        due("LOST in them alone", y.ahead(2, 2), 18);
        due("SQUARES", y.ahead(60, 3), 3200);
        due("ahead(60, 2)", y.ahead(60, 2), 540);
        due("ahead(0, 0)", y.ahead(0, 0), BAD);
        due("ahead(61, 0)", y.ahead(61, 0), BAD);
        due("ahead(1, 4)", y.ahead(1, 4), BAD);
    }

    private static void promise19Without() {
        DropQueues x = laid("n3;g2;l0,2,2;l0,2,1;l0,1,9;x0,1;b1;");
        x.put(0, 0, 40);
        x.put(1, 0, 40);
        due("LINK 0 goes: two a SLOT for 20 SLOTS", x.ahead(20, 0), 40);
        due("without(0): the one that CLASHES goes instead", x.without(0), 60);
        due("without(1)", x.without(1), 40);
        due("without(2)", x.without(2), 40);
        due("nothing changed", x.count(6), 0);
        due("without(3)", x.without(3), BAD);
        due("without(-1)", x.without(-1), BAD);
        DropQueues y = laid("n3;g2;l0,1,1;l1,2,1;b9;");
        y.put(0, 0, 3);
        due("BIAS stays: packets still go to NODE 1", y.without(1), 3);
        due("without(0)", y.without(0), 3);
        due("with both", y.ahead(20, 0), 0);
    }

    private static void promise20Worst() {
        DropQueues x = laid("n5;g4;l0,4,1;l1,4,1;l2,4,1;l3,4,1;x2,3;x1,3;x0,1;");
        due("nothing weighs", x.worst(0), NONE);
        due("worst(3) ahead of NONE", x.worst(3), BAD);
        due("worst(-1)", x.worst(-1), BAD);
        x.put(0, 0, 5);
        x.put(2, 0, 5);
        due("no CLASH costs", x.worst(2), NONE);
        x.put(1, 0, 3);
        x.put(3, 0, 4);
        due("the lower LINK", x.worst(0), 2);
        due("the other one", x.worst(1), 3);
        due("WEIGHT then", x.worst(2), 14);
        due("WEIGHT is", x.goes(1), 10);
        due("nothing changed", x.count(3), 3);
        x.put(1, 0, 1);
        x.clash(1, 3, 0);
        due("of several the first", x.worst(0), 0);
        due("and its other one", x.worst(1), 1);
        due("its WEIGHT", x.worst(2), 14);
        x.clash(0, 1, 0);
        due("a CLASH told anew counts", x.worst(0), 2);
        DropQueues y = laid("n2;g1;l0,1,1;");
        y.put(0, 0, 9);
        due("no pair", y.worst(0), NONE);
        DropQueues z = laid("n5;g4;l0,4,1;l1,4,1;l2,4,1;x1,2;x0,2;x0,1;");
        z.put(0, 0, 2);
        z.put(1, 0, 2);
        z.put(2, 0, 2);
        due("of three alike the lower LINK ahead", z.worst(0), 0);
        due("then the other one", z.worst(1), 1);
        due("WEIGHT of two", z.worst(2), 4);
    }

    private static void promise21Drawn() {
        DropQueues x = laid("n4;g2;g1;g3;f0,0,9;f0,1,9;f1,0,9;");
        due("z 0: 1 at NODE 0, 9604 at NODE 1", x.drawn(0, 1, 0), 1 + 0 + 9);
        due("z 1: 22803 at NODE 0, 61709 at NODE 1", x.drawn(1, 1, 0), 3 + 0 + 16);
        DropQueues y = laid("n4;g1;g2;g3;f0,2,9;");
        due("by 64 for GOAL 2", y.drawn(1, 1, 0), 14);
        DropQueues z = laid("n2;g1;f0,0,9;");
        due("the second SLOT", z.drawn(0, 2, 0), 1 + 10);
        z.slot(1);
        due("counted from now on", z.drawn(0, 2, 0), 9 + 1 + 10);
        due("SLOTS done", z.count(6), 1);
        z.put(0, 0, 31);
        due("LOST", z.drawn(0, 2, 2), 11);
        due("full", z.drawn(0, 2, 0), 40);
        due("drawn(-1, 1, 0)", z.drawn(-1, 1, 0), BAD);
        due("drawn(10000, 1, 0)", z.drawn(10000, 1, 0), BAD);
        due("drawn(0, 0, 0)", z.drawn(0, 0, 0), BAD);
        due("drawn(0, 61, 0)", z.drawn(0, 61, 0), BAD);
        due("drawn(0, 1, 3)", z.drawn(0, 1, 3), BAD);
        DropQueues w = laid("n2;g1;l0,1,9;f0,0,9;");
        due("THERE", w.drawn(0, 2, 1), 1);
        due("packets", w.drawn(0, 2, 0), 10);
        due("without FEED none are drawn", laid(ROW).drawn(9999, 60, 0), 0);
    }

    private static void promise22Count() {
        DropQueues x = laid("n4;g3;g1;l0,1,9;l1,3,1;l2,3,1;x0,2;b4;o1;f0,0,1;");
        x.put(0, 1, 40);
        x.put(2, 1, 40);
        x.put(2, 0, 40);
        x.slot(2);
        counts(x, "behind two SLOTS", 4, 2, 3, 1, 1, 4, 2, 22 + 40 + 40 + 2, 18, 0, 22 * 22 + 3200 + 4, 4, 48);
        due("count(13)", x.count(13), BAD);
        due("count(-1)", x.count(-1), BAD);
    }

    /** As many NODES, GOALS, LINKS and pairs as there can be. */
    private static void allLimits() {
        StringBuilder text = new StringBuilder("n6;g3;g4;g5;");
        for (int l = 0; l < 10; l++) {
            text.append("l").append(l % 3).append(',').append(3 + l % 3).append(",9;");
        }
        DropQueues x = laid(text + "f0,0,9;f1,1,9;f2,2,9;b9;o1;");
        for (int a = 0; a < 10; a++) {
            for (int b = a + 1; b < 10; b++) {
                x.clash(a, b, 1);
            }
        }
        for (int i = 0; i < 3; i++) {
            due("put(" + i + ", " + i + ", 40)", x.put(i, i, 40), 40);
        }
        due("all pairs", x.count(3), 45);
        due("link(9, 6)", x.link(9, 6), 511);
        due("each weighs as much", x.link(9, 4), 9 * 49);
        due("goes(0)", x.goes(0), 1);
        due("worst(1)", x.worst(1), 1);
        due("worst(2)", x.worst(2), 2 * 9 * 49);
        due("without(9)", x.without(9), 120);
        due("drawn(9999, 60, 1)", x.drawn(9999, 60, 1), 540);
        due("slot(60)", x.slot(60), 540);
        due("LOST: two QUEUES' FEEDS in each SLOT", x.count(9), 60 * 18);
        for (int a = 0; a < 10; a++) {
            for (int b = a + 1; b < 10; b++) {
                x.clash(a, b, 0);
            }
        }
        due("all go", x.goes(0), 1023);
        due("ahead(1, 1): four, three and three LINKS", x.ahead(1, 1), 36 + 27 + 27);
    }

    private static void badAheadOfAll() {
        for (int far : FAR) {
            DropQueues x = new DropQueues();
            due("feed(far)", x.feed(far, 0, 2) & x.feed(0, far, 2) & x.feed(0, 0, far), BAD);
            due("room(far)", x.room(far, 3) & x.room(0, far), BAD);
            due("tell(far)", x.tell(far, 0) & x.tell(0, far) & x.tell(1, far), BAD);
            due("clash(far)", x.clash(far, 0, 0) & x.clash(0, far, 0) & x.clash(0, 1, far) & x.clash(far, far, 0), BAD);
            due("put(far)", x.put(far, 0, 1) & x.put(0, far, 1) & x.put(0, 0, far), BAD);
            due("slot(far)", x.slot(far), BAD);
            due("queue(far)", x.queue(far, 0, 0) & x.queue(0, far, 0) & x.queue(0, 0, far), BAD);
            due("link(far)", x.link(far, 0) & x.link(0, far), BAD);
            due("drop(far)", x.drop(far, 0) & x.drop(0, far), BAD);
            due("goes(far)", x.goes(far), BAD);
            due("goal(far)", x.goal(far, 0) & x.goal(0, far), BAD);
            due("ahead(far)", x.ahead(far, 0) & x.ahead(1, far), BAD);
            due("without(far)", x.without(far), BAD);
            due("worst(far)", x.worst(far), BAD);
            due("drawn(far)", x.drawn(0, far, 0) & x.drawn(0, 1, far), BAD);
            due("count(far)", x.count(far), BAD);
            counts(x, "nothing changed by " + far, 5, 2, 7, 3, 0, 1, 0, 0, 0, 0, 0, 0, 0);
        }
    }

    /** The example by which README.md tells how to use the class. */
    private static void exampleOfReadme() {
        DropQueues x = written("n3;g2;l0,1,2;l1,2,1;");
        due("README: fault()", x.fault(), NONE);
        due("README: lay()", x.lay(), 3);
        due("README: put(0, 0, 5)", x.put(0, 0, 5), 5);
        due("README: goes(0)", x.goes(0), 1);
        due("README: ahead(7, 0)", x.ahead(7, 0), 0);
        due("README: slot(7)", x.slot(7), 5);
        due("README: goal(0, 2)", x.goal(0, 2), 21);
        due("README: undo()", x.undo(), 1);
    }
}
