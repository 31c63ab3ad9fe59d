import java.util.ArrayList;
import java.util.List;

/**
 * A refused call changes nothing, but for what write and remove empty: of two objects with the same
 * calls one gets all kinds of refused calls between, and both must answer alike behind it.
 */
public final class RefusedTest {
    private static final Due DUE = new Due("RefusedTest");
    private static final int[] NO_FOLDERS = {-1, 2, Integer.MIN_VALUE, Integer.MAX_VALUE};

    public static void main(String[] args) {
        DUE.says("Nothing is promised beyond the answers and state changes described above");
        Wire plain = prepared();
        Wire disturbed = prepared();
        refuseOfSender(disturbed.link);
        refuseOfSlots(disturbed.link);
        refuseOfReceiver(disturbed.link);
        refuseOfJournal(disturbed.link);
        isAlike("behind refused calls", plain, disturbed);

        plain = prepared();
        disturbed = prepared();
        plain.link.write(1);
        disturbed.link.write(1);
        refuseWithEmptying(disturbed);
        isAlike("behind refused writes and removes", plain, disturbed);
        DUE.end();
    }

    /** Six files in folder 0, versions that are whole, rejected, released and partly there, and a name at hand. */
    private static Wire prepared() {
        Wire w = new Wire();
        for (int k = 0; k < 6; k++) {
            w.write(0, "f" + k, Wire.filled(k, 'a' + k));
        }
        w.write(1, "x", Wire.bytes("in folder 1"));
        w.link.commit(1);
        w.link.rule(0, 20, true);
        hearSends(w, 6);
        w.link.release(1);
        w.write(1, "y", Wire.filled(21, 'y'));
        w.link.commit(1);
        hearSends(w, 20);
        w.link.commit(0);
        hearSends(w, 5);
        DUE.is("released", w.link.have(1, 1), 4);
        DUE.is("rejected", w.link.have(1, 2), 3);
        DUE.is("partly there", w.link.have(0, 1), 1);
        w.feed(false, Wire.bytes("ab"));
        w.feed(true, Wire.filled(90, 'd'));
        return w;
    }

    private static void hearSends(Wire w, int sends) {
        for (int s = 0; s < sends; s++) {
            w.link.hear(w.link.send());
        }
    }

    private static void refuseOfSender(DiodeLink x) {
        DUE.refusesArgument("feed of 0", () -> x.feed(true, 1, 0));
        DUE.refusesArgument("feed of 9", () -> x.feed(false, 1, 9));
        DUE.refusesState("a name of 2 and 5", () -> x.feed(false, 0x6161616161L, 5));
        DUE.refusesState("data of 90 and 7", () -> x.feed(true, 0x6161616161L, 7));
        for (int folder : NO_FOLDERS) {
            DUE.refusesArgument("commit(" + folder + ")", () -> x.commit(folder));
        }
    }

    private static void refuseOfSlots(DiodeLink x) {
        for (int slot : new int[] {-1, 31, 32, Integer.MIN_VALUE, Integer.MAX_VALUE}) {
            DUE.refusesArgument("packet of slot " + slot, () -> x.packet(slot, 0));
            DUE.refusesArgument("hear of slot " + slot, () -> x.hear(slot));
            DUE.refusesArgument("alter of slot " + slot, Due.answering(() -> x.alter(slot, 0, 255)));
        }
        for (int i : new int[] {-1, 24, Integer.MIN_VALUE, Integer.MAX_VALUE}) {
            DUE.refusesArgument("packet of place " + i, () -> x.packet(0, i));
            DUE.refusesArgument("alter of byte " + i, Due.answering(() -> x.alter(0, i, 255)));
        }
    }

    private static void refuseOfReceiver(DiodeLink x) {
        int[][] rules = {{-1, 0}, {4, 0}, {0, -1}, {0, 97}, {1, -1}, {1, 7}, {2, -1}, {2, 256}, {3, 256}};
        for (int[] a : rules) {
            for (boolean on : new boolean[] {true, false}) {
                DUE.refusesArgument("rule(" + a[0] + ", " + a[1] + ", " + on + ")",
                    Due.answering(() -> x.rule(a[0], a[1], on)));
            }
        }
        for (int folder : NO_FOLDERS) {
            DUE.refusesArgument("have(" + folder + ", 1)", () -> x.have(folder, 1));
            DUE.refusesArgument("rank(" + folder + ", 1, 0, 0)", () -> x.rank(folder, 1, 0, 0));
            DUE.refusesArgument("release(" + folder + ")", () -> x.release(folder));
            DUE.refusesArgument("released(" + folder + ")", () -> x.released(folder));
            DUE.refusesArgument("file(" + folder + ", 0, 0, true)", () -> x.file(folder, 0, 0, true));
        }
        DUE.refusesIndex("file(1, 1, 0, true)", () -> x.file(1, 1, 0, true));
        DUE.refusesIndex("file(1, 0, 99, true)", () -> x.file(1, 0, 99, true));
        DUE.refusesArgument("count(3)", () -> x.count(3));
    }

    private static void refuseOfJournal(DiodeLink x) {
        DUE.refusesArgument("journal(0, 5)", () -> x.journal(0, 5));
        DUE.refusesIndex("journal(2, 0)", () -> x.journal(2, 0));
        DUE.refusesArgument("touch(0, 4, 1)", Due.answering(() -> x.touch(0, 4, 1)));
        DUE.refusesArgument("touch(0, -1, 1)", Due.answering(() -> x.touch(0, -1, 1)));
        DUE.refusesIndex("touch(2, 0, 1)", Due.answering(() -> x.touch(2, 0, 1)));
        DUE.refusesIndex("touch(-1, 0, 1)", Due.answering(() -> x.touch(-1, 0, 1)));
    }

    /** These empty what is at hand, so they come when nothing is. */
    private static void refuseWithEmptying(Wire w) {
        for (int folder : NO_FOLDERS) {
            w.feed(false, Wire.bytes("f0"));
            w.feed(true, Wire.bytes("new"));
            DUE.refusesArgument("write(" + folder + ")", () -> w.link.write(folder));
            w.feed(false, Wire.bytes("f0"));
            DUE.refusesArgument("remove(" + folder + ")", () -> w.link.remove(folder) ? 1 : 0);
        }
        w.feed(false, Wire.bytes("f "));
        DUE.refusesArgument("a name that is not so", () -> w.link.write(0));
        w.feed(true, Wire.bytes("new"));
        DUE.refusesArgument("no name", () -> w.link.write(1));
        w.feed(false, Wire.bytes("f6"));
        w.feed(true, Wire.bytes("new"));
        DUE.refusesState("a seventh file", () -> w.link.write(0));
    }

    private static void isAlike(String what, Wire plain, Wire disturbed) {
        List<Long> wanted = answersOf(plain);
        List<Long> got = answersOf(disturbed);
        for (int k = 0; k < wanted.size(); k++) {
            DUE.is("answer " + k + " " + what, got.get(k), wanted.get(k));
        }
    }

    /** All that can be seen of the receiver, then of the sender by going on. */
    private static List<Long> answersOf(Wire w) {
        List<Long> answers = new ArrayList<>();
        DiodeLink x = w.link;
        for (int what = 0; what < 3; what++) {
            answers.add((long) x.count(what));
        }
        for (int folder = 0; folder < 2; folder++) {
            answers.add((long) x.released(folder));
            for (int item = 0; item < 7; item++) {
                answers.add((long) x.rank(folder, 1, item, 0));
                answers.add((long) x.rank(folder, 2, item, 0));
            }
            answers.add((long) (10 * x.have(folder, 1) + x.have(folder, 2)));
        }
        for (int what = 0; what < 5; what++) {
            answers.add(x.journal(0, what));
            answers.add(x.journal(1, what));
        }
        answers.add(x.isSound() ? 1L : 0L);
        answers.add((long) x.feed(false, 0x63, 1));
        answers.add((long) x.feed(true, 0x63, 1));
        answers.add((long) x.write(1));
        goOn(x, answers);
        return answers;
    }

    private static void goOn(DiodeLink x, List<Long> answers) {
        for (int s = 0; s < 4; s++) {
            answers.add(x.packet(x.send(), 16));
        }
        answers.add((long) x.commit(1));
        for (int s = 0; s < 40; s++) {
            int slot = x.send();
            answers.add(x.packet(slot, 16));
            answers.add((long) x.hear(slot));
        }
        for (int folder = 0; folder < 2; folder++) {
            answers.add((long) x.release(folder));
            answers.add((long) x.commit(folder));
        }
        answers.add((long) x.restartSender());
    }
}
