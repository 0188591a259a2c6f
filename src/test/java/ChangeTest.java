import java.util.List;
import java.util.function.Consumer;

/** Promises 23 to 32: the changes, undo and snapshots. */
public final class ChangeTest {
    public static void main(String[] args) {
        promise23();
        promise24();
        promise25();
        promise26();
        promise27();
        promise27Order();
        promise28();
        promise29();
        promise30();
        promise30Each();
        promise31();
        promise32();
        Check.end();
    }

    private static void promise23() {
        OnceDisc disc = Check.disc("disc 20 3;file a;file b;bad 1;bad 2;bad 17;");
        Check.equal("the first version", disc.write(0, 2, 0), 0);
        Check.equal("next", disc.size(4), 2);
        Check.equal("a session is open", disc.size(9), 1);
        Check.equal("place(1)", disc.place(1), 18);
        Check.equal("a failed spare block", disc.block(17, 0), 3);
        Check.equal("the second version", disc.write(1, 8, 999), 1);
        Check.equal("the third version", disc.write(0, 1, 5), 2);
        Check.equal("sessions", disc.size(3), 1);
        Check.equal("entries", disc.session(0, 3), 2);
        Check.equal("versions", disc.size(12), 3);
        Check.equal("no spare block is left", disc.size(5), 0);
        disc.scratch(11);
        Check.equal("changes", disc.size(11), 4);
        Check.state("a bad block without a spare block", () -> disc.write(0, 1, 1));
        Check.index("write(2, 0, 0)", () -> disc.write(2, 0, 0));
        Check.index("write(-1, 1, 0)", () -> disc.write(-1, 1, 0));
        Check.argument("write(0, 0, 0)", () -> disc.write(0, 0, 0));
        Check.argument("write(0, 9, 0)", () -> disc.write(0, 9, 0));
        Check.argument("write(0, 1, -1)", () -> disc.write(0, 1, -1));
        Check.argument("write(0, 1, 1000)", () -> disc.write(0, 1, 1000));
        Check.equal("an exception changes nothing", disc.size(11), 4);
        Check.equal("next is as before", disc.size(4), 11);
        OnceDisc full = Check.disc("disc 8 0;file a;file b;");
        Check.state("no room for the directory", () -> full.write(0, 8, 1));
        Check.equal("no session has begun", full.size(3), 0);
        Check.equal("the main area but for the directory", full.write(0, 7, 1), 0);
        Check.state("a full main area", () -> full.write(1, 1, 1));
        Check.equal("close", full.close(), 0);
        Check.equal("next at the end", full.size(4), 8);
        Check.state("no room at all", () -> full.write(0, 1, 1));
        Check.state("no room to erase", () -> full.erase(0));
    }

    private static void promise24() {
        OnceDisc disc = Check.disc("disc 20 0;file a;file b;file c;write a 1 1;write b 1 2;close;");
        Check.equal("erase", disc.erase(0), 1);
        Check.equal("it begins a session", disc.session(1, 0), 0);
        Check.equal("its first block", disc.session(1, 1), 3);
        Check.equal("it writes nothing", disc.size(4), 3);
        Check.equal("its entry", disc.entry(1, 0, 0), 0);
        Check.equal("its entry's version", disc.entry(1, 0, 1), -1);
        Check.state("a file that is erased", () -> disc.erase(0));
        Check.state("a file that never was", () -> disc.erase(2));
        disc.write(2, 1, 1);
        Check.equal("erase in the session that wrote it", disc.erase(2), 1);
        Check.equal("in the same place", disc.entry(1, 1, 1), -1);
        disc.write(0, 1, 5);
        Check.equal("back in the same place", disc.entry(1, 0, 1), 3);
        Check.equal("erase the other", disc.erase(1), 1);
        Check.equal("erase again", disc.erase(0), 0);
        Check.index("erase(3)", () -> disc.erase(3));
        Check.index("erase(-1)", () -> disc.erase(-1));
        OnceDisc many = Check.disc("disc 40 0;file a;file b;write b 1 1;close;");
        for (int n = 1; n < 12; n++) {
            many.write(0, 1, n);
            many.close();
        }
        Check.state("12 sessions", () -> many.erase(1));
        // A fifth entry needs a second block of the directory, which the last block is not enough for.
        OnceDisc tight = Check.disc("disc 12 0;file a;file b;file c;file d;file e;write e 2 1;close;"
            + "write a 2 1;write b 2 1;write c 2 1;write d 2 1;");
        Check.state("no room for two blocks of a directory", () -> tight.erase(4));
        Check.equal("room for one", tight.erase(3), 4);
        OnceDisc spare = Check.disc("disc 12 0;file a;write a 1 1;close;bad 2;");
        Check.equal("erase needs no spare block", spare.erase(0), 0);
    }

    private static void promise25() {
        OnceDisc disc = Check.disc("disc 20 2;file a;file b;file c;file d;file e;");
        Check.state("no session", () -> disc.close());
        disc.write(0, 1, 1);
        disc.write(1, 1, 1);
        disc.write(2, 1, 1);
        disc.write(3, 1, 1);
        Check.equal("close", disc.close(), 0);
        Check.equal("four entries in one block", disc.size(4), 5);
        Check.state("closed already", () -> disc.close());
        for (int file = 0; file < 5; file++) {
            disc.write(file, 1, 2);
        }
        disc.scratch(11);
        Check.equal("close again", disc.close(), 1);
        Check.equal("five entries in two blocks", disc.size(4), 12);
        Check.equal("its directory", disc.session(1, 4), 10);
        Check.equal("its second block is relocated", disc.place(11), 18);
        Check.equal("its link", disc.session(1, 6), 0);
        Check.equal("its state", disc.session(1, 0), 1);
        OnceDisc stuck = Check.disc("disc 8 1;file a;write a 1 1;");
        stuck.scratch(1);
        stuck.scratch(7);
        Check.state("a bad block and no good spare block", () -> stuck.close());
        Check.equal("the session is open still", stuck.size(9), 1);
        Check.equal("no spare block has failed", stuck.block(7, 0), 0);
    }

    private static void promise26() {
        OnceDisc disc = Check.disc("disc 20 2;file a;file b;write b 1 1;close;bad 3;");
        Check.state("no session is open", () -> disc.crash());
        disc.write(0, 3, 1);
        Check.equal("its blocks of the main area", disc.crash(), 3);
        Check.equal("lost", disc.session(1, 0), 2);
        Check.equal("next stays", disc.size(4), 5);
        Check.equal("the versions stay", disc.size(12), 2);
        Check.equal("the data stays", disc.block(2, 0), 1);
        Check.equal("the file is not there", disc.file(0, 0), 0);
        Check.equal("nor is its entry", disc.file(0, 5), -1);
        Check.state("lost already", () -> disc.crash());
        disc.erase(1);
        Check.equal("a session without blocks", disc.crash(), 0);
        Check.equal("the other file is there again", disc.file(1, 0), 1);
    }

    private static void promise27() {
        OnceDisc disc = Check.disc("disc 30 2;file a;file b;file c;write c 1 1;close;");
        Check.state("the latest session is closed", () -> disc.recover());
        disc.write(1, 1, 1);
        disc.erase(2);
        disc.write(0, 2, 2);
        Check.state("a session is open", () -> disc.recover());
        disc.crash();
        Check.equal("two versions", disc.recover(), 2);
        Check.equal("the lost session is recovered", disc.session(1, 0), 3);
        Check.equal("the new one is closed", disc.session(2, 0), 1);
        Check.equal("its first block", disc.session(2, 1), 5);
        Check.equal("its directory", disc.session(2, 4), 5);
        Check.equal("its only block", disc.session(2, 2), 1);
        Check.equal("its link", disc.session(2, 6), 0);
        Check.equal("next", disc.size(4), 6);
        Check.equal("what was erased is there still", disc.file(2, 0), 1);
        Check.equal("a session for the entry", disc.file(0, 5), 2);
        Check.state("recovered already", () -> disc.recover());
        disc.write(0, 1, 1);
        disc.crash();
        disc.write(1, 1, 1);
        disc.close();
        Check.state("not the latest session", () -> disc.recover());
        OnceDisc full = Check.disc("disc 40 0;file a;");
        for (int n = 0; n < 11; n++) {
            full.write(0, 1, 1);
            full.close();
        }
        full.write(0, 1, 2);
        full.crash();
        Check.state("12 sessions", () -> full.recover());
        OnceDisc stuck = Check.disc("disc 8 1;file a;write a 1 1;");
        stuck.scratch(1);
        stuck.scratch(7);
        stuck.crash();
        Check.state("no spare block for the directory", () -> stuck.recover());
    }

    private static void promise27Order() {
        OnceDisc disc = Check.disc("disc 40 2;file a;file b;file c;file d;file e;file f;");
        int[] files = {3, 0, 5, 0, 1, 3, 2, 4};
        for (int version = 0; version < files.length; version++) {
            disc.write(files[version], 2, version * 10);
        }
        disc.crash();
        disc.scratch(11);
        disc.scratch(14);
        Check.equal("five versions", disc.recover(), 5);
        int[] versions = {0, 2, 3, 4, 6};
        for (int k = 0; k < versions.length; k++) {
            Check.equal("the version " + k, disc.entry(1, k, 1), versions[k]);
            Check.equal("its file", disc.entry(1, k, 0), files[versions[k]]);
            Check.equal("its first block", disc.entry(1, k, 2), versions[k] * 2);
            Check.equal("its tag", disc.entry(1, k, 4), versions[k] * 10);
        }
        Check.equal("no more", disc.entry(1, 5, 1), -1);
        Check.equal("two blocks of directory", disc.session(1, 2), 2);
        Check.equal("next", disc.size(4), 18);
        // A session that was lost earlier keeps its versions to itself.
        OnceDisc earlier = Check.disc("disc 40 2;file a;file b;write a 1 1;");
        earlier.crash();
        earlier.write(1, 1, 1);
        earlier.crash();
        Check.equal("only the latest lost session", earlier.recover(), 1);
        Check.equal("the earlier one stays lost", earlier.session(0, 0), 2);
    }

    private static void promise28() {
        OnceDisc disc = Check.disc("disc 12 3;file a;bad 1;bad 5;write a 2 1;bad 0;");
        Check.equal("a block of data that is bad", disc.scratch(0) ? 1 : 0, 1);
        Check.equal("is unreadable", disc.block(0, 2), 1);
        Check.equal("again", disc.scratch(0) ? 1 : 0, 0);
        Check.equal("a failed block", disc.scratch(1) ? 1 : 0, 1);
        Check.equal("is unreadable", disc.block(1, 2), 1);
        Check.equal("again", disc.scratch(1) ? 1 : 0, 0);
        Check.equal("a spare block with data", disc.scratch(9) ? 1 : 0, 1);
        Check.equal("is not bad", disc.block(9, 1), 0);
        Check.equal("an empty block", disc.scratch(6) ? 1 : 0, 1);
        Check.equal("is bad", disc.block(6, 1), 1);
        Check.equal("is not unreadable", disc.block(6, 2), 0);
        Check.equal("an empty block again", disc.scratch(6) ? 1 : 0, 0);
        Check.equal("an empty block that was bad", disc.scratch(5) ? 1 : 0, 0);
        Check.equal("all are changes", disc.size(11), 8);
        Check.index("scratch(12)", () -> disc.scratch(12) ? 1 : 0);
        Check.index("scratch(-1)", () -> disc.scratch(-1) ? 1 : 0);
        Check.equal("exceptions are none", disc.size(11), 8);
    }

    private static void promise29() {
        OnceDisc disc = new OnceDisc();
        Check.equal("setScan(false)", disc.setScan(false) ? 1 : 0, 0);
        Check.equal("setScan(true)", disc.setScan(true) ? 1 : 0, 0);
        Check.equal("setScan(true) again", disc.setScan(true) ? 1 : 0, 1);
        Check.equal("scan", disc.size(10), 1);
        Check.equal("setScan(false)", disc.setScan(false) ? 1 : 0, 1);
        Check.equal("scan", disc.size(10), 0);
        Check.equal("all are changes", disc.size(11), 4);
    }

    private static void promise30() {
        OnceDisc disc = Check.disc("disc 30 2;file a;");
        Check.equal("nothing to undo", disc.undo(), -1);
        for (int n = 0; n < 13; n++) {
            disc.write(0, 1, n);
            Check.equal("changes", disc.size(11), Math.min(10, n + 1));
        }
        for (int n = 9; n >= 5; n--) {
            Check.equal("undo", disc.undo(), n);
            Check.equal("the tag", disc.file(0, 4), n + 2);
        }
        Check.equal("a change amid", disc.write(0, 2, 500), 8);
        Check.equal("changes", disc.size(11), 6);
        for (int n = 5; n >= 0; n--) {
            Check.equal("undo", disc.undo(), n);
        }
        Check.equal("the tag of the third change", disc.file(0, 4), 2);
        Check.equal("next", disc.size(4), 3);
        Check.equal("none is left", disc.undo(), -1);
        Check.equal("it stays", disc.size(4), 3);
    }

    private static void promise30Each() {
        List<Consumer<OnceDisc>> changes = List.of(disc -> disc.write(0, 3, 8), disc -> disc.erase(1), OnceDisc::crash,
            OnceDisc::recover, disc -> disc.setScan(true), disc -> disc.scratch(1), disc -> disc.erase(0), OnceDisc::close);
        for (int kept = changes.size() - 1; kept >= 0; kept--) {
            OnceDisc disc = changed(changes);
            for (int n = changes.size() - 1; n >= kept; n--) {
                Check.equal("undo", disc.undo(), n);
            }
            Check.equal("the state with " + kept + " changes", state(disc), state(changed(changes.subList(0, kept))));
        }
    }

    private static OnceDisc changed(List<Consumer<OnceDisc>> changes) {
        OnceDisc disc = Check.disc("disc 30 4;file a;file b;bad 2;bad 26;write b 1 1;close;");
        changes.forEach(change -> change.accept(disc));
        return disc;
    }

    /** Everything that changes can change, as a text; some 360 calls. */
    private static String state(OnceDisc disc) {
        StringBuilder text = new StringBuilder();
        for (int what = 0; what <= 12; what++) {
            text.append(what == 11 ? "" : disc.size(what) + " ");
        }
        for (int block = 0; block < disc.size(0); block++) {
            for (int what = 0; what <= 6; what++) {
                text.append(disc.block(block, what)).append(' ');
            }
            text.append(disc.place(block)).append('\n');
        }
        for (int session = 0; session < disc.size(3); session++) {
            for (int what = 0; what <= 8; what++) {
                text.append(disc.session(session, what)).append(' ');
            }
            for (int k = 0; k < disc.session(session, 3); k++) {
                for (int part = 0; part <= 4; part++) {
                    text.append(disc.entry(session, k, part)).append(' ');
                }
            }
        }
        for (int file = 0; file < disc.size(2); file++) {
            for (int what = 0; what <= 6; what++) {
                text.append(disc.file(file, what)).append(' ');
            }
        }
        return text.toString();
    }

    private static void promise31() {
        OnceDisc disc = Check.disc("disc 30 4;file a;");
        disc.write(0, 1, 1);
        Check.equal("the first in slot 1", disc.saveSnapshot(1) ? 1 : 0, 0);
        Check.equal("the first in slot 0", disc.saveSnapshot(0) ? 1 : 0, 0);
        Check.equal("it is no change", disc.size(11), 1);
        disc.close();
        Check.equal("the second in slot 1", disc.saveSnapshot(1) ? 1 : 0, 1);
        disc.undo();
        Check.equal("undo leaves the slots", disc.restoreSnapshot(1), 1);
        Check.equal("the later one is there", disc.session(0, 0), 1);
        Check.equal("the other slot", disc.restoreSnapshot(0), 1);
        Check.equal("the session is open", disc.session(0, 0), 0);
        Check.index("saveSnapshot(2)", () -> disc.saveSnapshot(2) ? 1 : 0);
        Check.index("saveSnapshot(-1)", () -> disc.saveSnapshot(-1) ? 1 : 0);
    }

    private static void promise32() {
        List<Consumer<OnceDisc>> saved = List.of(disc -> disc.setScan(true), disc -> disc.erase(1),
                disc -> disc.scratch(20),
            disc -> disc.write(0, 2, 4), disc -> disc.write(1, 1, 5));
        OnceDisc disc = changed(saved);
        Check.state("an empty slot", () -> disc.restoreSnapshot(0));
        Check.equal("the history is there still", disc.size(11), 5);
        disc.saveSnapshot(0);
        disc.write(1, 3, 3);
        disc.scratch(0);
        disc.scratch(21);
        disc.crash();
        disc.recover();
        disc.setScan(false);
        Check.equal("restoreSnapshot", disc.restoreSnapshot(0), 2);
        Check.equal("the history is cleared", disc.size(11), 0);
        Check.equal("nothing to undo", disc.undo(), -1);
        disc.erase(0);
        Check.equal("one change", disc.undo(), 0);
        disc.erase(0);
        Check.equal("it stays stored", disc.restoreSnapshot(0), 2);
        Check.equal("the state again", state(disc), state(changed(saved)));
        Check.state("the other slot is empty", () -> disc.restoreSnapshot(1));
        Check.index("restoreSnapshot(2)", () -> disc.restoreSnapshot(2));
        Check.index("restoreSnapshot(-1)", () -> disc.restoreSnapshot(-1));
        restoresWhatWasWrittenOver(saved);
    }

    private static void restoresWhatWasWrittenOver(List<Consumer<OnceDisc>> saved) {
        OnceDisc disc = changed(saved);
        disc.saveSnapshot(1);
        for (int n = 0; n < 5; n++) {
            disc.undo();
        }
        disc.write(1, 3, 6);
        disc.crash();
        disc.write(1, 1, 8);
        disc.write(0, 4, 7);
        disc.close();
        Check.equal("restoreSnapshot", disc.restoreSnapshot(1), 2);
        Check.equal("the state", state(disc), state(changed(saved)));
    }
}
