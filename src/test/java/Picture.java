import java.util.ArrayList;
import java.util.List;

/** All that can be seen of an object: what every looking call answers, now and behind what may come. */
final class Picture {
    private static final int SLOTS = 5;

    private final List<String> seen = new ArrayList<>();

    private Picture() {
    }

    /** Each part on an object of its own, since looking must not disturb what is looked at. */
    static List<String> whole(Run run) {
        Picture picture = new Picture();
        picture.now(run.again());
        picture.undone(run);
        picture.slots(run.again());
        Run laid = run.again();
        picture.look(laid, "lay()");
        picture.now(laid);
        return picture.seen;
    }

    private int look(Run run, String call) {
        int answer = run.ask(call);
        seen.add(call + " = " + answer);
        return answer;
    }

    private void look(Run run, String head, int most) {
        for (int what = 0; what <= most; what++) {
            look(run, head + what + ")");
        }
    }

    private void now(Run run) {
        look(run, "count(", 12);
        int nodes = run.ask("count(0)");
        int goals = run.ask("count(1)");
        int links = run.ask("count(2)");
        look(run, "fault()");
        look(run, "goes(", 1);
        look(run, "worst(", 2);
        look(run, "ahead(3, ", 3);
        look(run, "drawn(77, 3, ", 2);
        for (int l = 0; l < links; l++) {
            look(run, "link(" + l + ", ", 6);
            look(run, "drop(" + l + ", ", goals - 1);
            look(run, "without(" + l + ")");
        }
        for (int g = 0; g < goals; g++) {
            look(run, "goal(" + g + ", ", 4);
            for (int i = 0; i < nodes; i++) {
                look(run, "queue(" + i + ", " + g + ", ", 3);
            }
        }
    }

    private void undone(Run run) {
        for (int changes = 1; changes <= 5; changes++) {
            Run back = run.again();
            int left = 0;
            for (int k = 0; k < changes && left >= 0; k++) {
                left = look(back, "undo()");
            }
            if (left < 0) {
                return;
            }
            now(back);
        }
    }

    /** In what order packets stand in a QUEUE is seen only as they leave it. */
    private void slots(Run run) {
        int nodes = run.ask("count(0)");
        int goals = run.ask("count(1)");
        for (int k = 0; k < SLOTS; k++) {
            look(run, "slot(1)");
            for (int g = 0; g < goals; g++) {
                look(run, "goal(" + g + ", 2)");
                for (int i = 0; i < nodes; i++) {
                    look(run, "queue(" + i + ", " + g + ", 1)");
                }
            }
        }
    }
}
