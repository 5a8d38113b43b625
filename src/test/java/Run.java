import java.util.ArrayList;
import java.util.List;

/** A new object with the calls made on it, told as text such as "put(0, 0, 5)", so that they can be made once more. */
final class Run {
    /** What later calls answer is free. */
    private static final int MOST_CALLS = 512;

    private final DropQueues x = new DropQueues();
    private final List<String> calls = new ArrayList<>();

    static Run written(String text) {
        Run run = new Run();
        run.write(text);
        return run;
    }

    void write(String text) {
        for (char letter : text.toCharArray()) {
            ask("write(" + (int) letter + ")");
        }
    }

    void rewrite(String text) {
        ask("wipe()");
        write(text);
    }

    Run again() {
        return againWithoutLast(0);
    }

    Run againWithoutLast(int n) {
        Run run = new Run();
        for (String call : calls.subList(0, calls.size() - n)) {
            run.ask(call);
        }
        return run;
    }

    int ask(String call) {
        calls.add(call);
        if (calls.size() > MOST_CALLS) {
            throw new IllegalStateException("a run of more than " + MOST_CALLS + " calls");
        }
        int open = call.indexOf('(');
        String told = call.substring(open + 1, call.length() - 1);
        String[] parts = told.isEmpty() ? new String[0] : told.split(", ");
        int[] v = new int[3];
        for (int k = 0; k < parts.length; k++) {
            v[k] = Integer.parseInt(parts[k]);
        }
        return answer(call.substring(0, open) + parts.length, v[0], v[1], v[2]);
    }

    private int answer(String name, int u, int v, int w) {
        return switch (name) {
            case "write1" -> x.write(u);
            case "wipe0" -> x.wipe();
            case "fault0" -> x.fault();
            case "lay0" -> x.lay();
            case "feed3" -> x.feed(u, v, w);
            case "room2" -> x.room(u, v);
            case "tell2" -> x.tell(u, v);
            case "clash3" -> x.clash(u, v, w);
            case "put3" -> x.put(u, v, w);
            case "slot1" -> x.slot(u);
            case "undo0" -> x.undo();
            case "queue3" -> x.queue(u, v, w);
            case "link2" -> x.link(u, v);
            case "drop2" -> x.drop(u, v);
            case "goes1" -> x.goes(u);
            case "goal2" -> x.goal(u, v);
            case "ahead2" -> x.ahead(u, v);
            case "without1" -> x.without(u);
            case "worst1" -> x.worst(u);
            case "drawn3" -> x.drawn(u, v, w);
            case "count1" -> x.count(u);
            default -> throw new IllegalArgumentException("no call " + name);
        };
    }

    /** The calls so far, the letters of a TEXT drawn together. */
    @Override
    public String toString() {
        StringBuilder all = new StringBuilder();
        for (String call : calls) {
            if (call.startsWith("write(") && Integer.parseInt(call.substring(6, call.length() - 1)) > 32) {
                all.append((char) Integer.parseInt(call.substring(6, call.length() - 1)));
            } else {
                all.append(' ').append(call);
            }
        }
        return all.toString();
    }
}
