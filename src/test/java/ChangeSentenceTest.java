import java.io.IOException;

/** Each sentence of the promises 23 to 32. */
public final class ChangeSentenceTest {
    private static final String NO_FILE_FIRST =
        "Throws `IndexOutOfBoundsException` if there is no such file (checked first)";
    private static final String REFUSED = "Throws `IllegalStateException` if it is refused";
    private static final String NO_SLOT = "Throws `IndexOutOfBoundsException` if there is no such slot";
    private static final String FIVE = "file a;file b;file c;file d;file e;";

    public static void main(String[] args) throws IOException {
        promise23();
        promise24();
        promise25();
        promise26();
        promise27();
        promise28();
        promise29();
        promise30();
        promise30Kinds();
        promise31();
        promise32();
        promise32State();
        Sentence.end();
    }

    private static void promise23() {
        String heading = "Promise 23";
        Sentence.of(heading, "Writes a version of a file.")
            .on("disc 20 3;file a;file b;bad 1;bad 2;bad 17;", "write(0, 2, 5) = 0", "size(*) = 20 3 2 1 2 1 3 1 1 1 0 1 1",
                "place({0 1}) = 0 18", "block(17, 0) = 3", "write(1, 3, 6) = 1", "size(*) = 20 3 2 1 5 0 3 2 2 1 0 2 2",
                "block(*, 4) = 0 -1 -1 1 1", "entry(0, 1, *) = 1 1 2 3 6", "session(0, *) = 0 0 5 2 -1 0 -1 1 3");
        Sentence.of(heading, "- `length`: 1 to 8").on("disc 20 0;file a;", "write(0, 1, 1) = 0", "size(4) = 1",
            "write(0, 8, 1) = 1", "size(4) = 9", "where(0, {7 8}) = 8 -1");
        Sentence.of(heading, "- `tag`: 0 to 999").on("disc 20 0;file a;", "write(0, 1, 0) = 0", "file(0, 4) = 0",
            "write(0, 1, 999) = 1", "file(0, 4) = 999");
        Sentence.of(heading, "Returns the version.").on("disc 30 0;file a;file b;write b 1 1;close;", "write(0, 1, 1) = 1",
            "write(1, 1, 1) = 2", "crash()", "write(0, 1, 1) = 3", "undo()", "write(0, 1, 1) = 3", "write(0, 1, 1) = 4");
        Sentence.of(heading, NO_FILE_FIRST)
            .on("disc 8 0;file a;write a 7 1;close;", "write({-1 1 max min}, 1, 1) throws IndexOutOfBounds",
                "write({-1 1}, 0, 1) throws IndexOutOfBounds", "write({-1 1}, 1, 1000) throws IndexOutOfBounds");
        Sentence.of(heading, "Throws `IllegalArgumentException` if length or tag is out of range (checked second)")
            .on("disc 20 0;file a;", "write(0, {-1 0 9 max min}, 1) throws IllegalArgument",
                "write(0, 1, {-1 1000 max min}) throws IllegalArgument")
            .on("disc 8 0;file a;write a 7 1;close;", "write(0, 0, 1) throws IllegalArgument",
                "write(0, 1, 1000) throws IllegalArgument", "write(0, 1, 1) throws IllegalState");
        Sentence.of(heading, REFUSED)
            .on("disc 8 0;file a;", "write(0, 8, 1) throws IllegalState", "size({3 4 12}) = 0 0 0", "write(0, 7, 1) = 0",
                "write(0, 1, 1) throws IllegalState")
            .on("disc 12 1;file a;bad 2;bad 3;", "write(0, 4, 1) throws IllegalState", "block({2 11}, 0) = 0 0",
                "write(0, 3, 1) = 0", "write(0, 1, 1) throws IllegalState")
            .on("disc 40 0;file a;", "12 times: write(0, 1, 1); close()", "write(0, 1, 1) throws IllegalState");
    }

    private static void promise24() {
        String heading = "Promise 24";
        Sentence.of(heading, "Erases a file: it comes into the session as erased.")
            .on("disc 20 0;file a;file b;write a 1 1;write b 1 2;close;", "erase(0) = 1",
                "session(1, *) = 0 3 0 1 -1 0 -1 1 0",
                "entry(1, 0, *) = 0 -1 -1 0 -1", "file(0, *) = 0 0 -1 0 -1 1 1", "size(4) = 3", "write(0, 1, 5) = 2",
                "entry(1, 0, *) = 0 2 3 1 5", "erase(1) = 1", "entry(1, 1, *) = 1 -1 -1 0 -1", "erase(0) = 0",
                "entry(1, 0, *) = 0 -1 -1 0 -1", "close() = 1", "size(4) = 5", "file(*, 0) = 0 0");
        Sentence.of(heading, "Returns the number of files that are there then.")
            .on("disc 20 0;file a;file b;file c;write a 1 1;write b 1 2;write c 1 3;close;", "scratch(0)", "erase(1) = 2",
                "erase(0) = 1", "erase(2) = 0");
        Sentence.of(heading, NO_FILE_FIRST).on("disc 8 0;file a;", "erase({-1 1 max min}) throws IndexOutOfBounds",
            "erase(0) throws IllegalState");
        Sentence.of(heading, REFUSED)
            .on("disc 20 0;file a;file b;write a 1 1;close;", "erase(1) throws IllegalState", "size(3) = 1", "scratch(1)",
                "erase(0) throws IllegalState", "undo()", "erase(0) = 0", "erase(0) throws IllegalState")
            .on("disc 40 0;file a;file b;write b 1 1;close;", "11 times: write(0, 1, 1); close()",
                "erase(1) throws IllegalState")
            .on("disc 8 0;file a;write a 7 1;close;", "erase(0) throws IllegalState")
            // A bad block is no reason: nothing is written.
            .on("disc 8 0;file a;write a 1 1;close;bad 2;", "erase(0) = 0");
    }

    private static void promise25() {
        String heading = "Promise 25";
        Sentence.of(heading, "Closes the open session.")
            .on("disc 20 2;" + FIVE + "bad 6;", "write({0 1 2 3 4}, 1, 1)", "close() = 0",
                "session(0, *) = 1 0 7 5 5 1 -1 1 1",
                "size({4 9}) = 7 0", "block(5, *) = 2 0 0 0 -1 0 -1", "block(18, *) = 2 0 0 0 -1 1 6", "place(6) = 18",
                "file(*, 0) = 1 1 1 1 1", "size(11) = 6");
        Sentence.of(heading, "Returns the session.").on("disc 20 0;file a;write a 1 1;", "close() = 0", "write(0, 1, 1)",
            "crash()", "write(0, 1, 1)", "close() = 2");
        Sentence.of(heading, REFUSED)
            .on("disc 8 1;file a;", "close() throws IllegalState", "write(0, 1, 1)", "scratch({1 7})",
                "close() throws IllegalState", "size(9) = 1", "block({1 7}, 0) = 0 0", "undo()", "close() = 0",
                "close() throws IllegalState");
    }

    private static void promise26() {
        String heading = "Promise 26";
        Sentence.of(heading, "A crash: the open session is lost.")
            .on("disc 20 2;file a;file b;write b 1 1;close;", "write(0, 3, 1)", "erase(1)", "crash() = 3",
                "session(1, *) = 2 2 3 0 -1 0 -1 0 0", "entry(1, {0 1}, 0) = -1 -1", "file(*, 0) = 0 1",
                "file(*, 5) = -1 0",
                "size({4 9 12}) = 5 0 2", "block(*, 0) = 1 2 1 1 1");
        Sentence.of(heading, "Returns the number of its blocks of the main area.")
            .on("disc 20 4;file a;file b;bad 1;write a 3 1;", "crash() = 3", "write(0, 1, 1)", "write(1, 2, 1)",
                "crash() = 3",
                "write(1, 1, 1)", "close()", "erase(1)", "crash() = 0");
        Sentence.of(heading, REFUSED)
            .on("disc 20 0;file a;", "crash() throws IllegalState", "write(0, 1, 1)", "crash()",
                "crash() throws IllegalState",
                "recover()", "crash() throws IllegalState", "write(0, 1, 1)", "close()", "crash() throws IllegalState")
            // A session that cannot be closed can be lost.
            .on("disc 8 0;file a;write a 1 1;bad 1;", "close() throws IllegalState", "crash() = 1");
    }

    private static void promise27() {
        String heading = "Promise 27";
        Sentence.of(heading, "Recovers the latest session, which is lost.")
            .on("disc 30 2;file a;file b;file c;bad 6;write c 1 1;close;", "write(1, 1, 1)", "erase(2)", "write(0, 2, 2)",
                "write(1, 1, 3)", "crash() = 4", "recover() = 2", "session(1, *) = 3 2 4 0 -1 0 -1 0 0",
                "session(2, *) = 1 6 1 2 6 1 0 1 1", "entry(2, 0, *) = 0 2 3 2 2", "entry(2, 1, *) = 1 3 5 1 3",
                "size({4 9 12}) = 7 0 4", "file(*, 5) = 2 2 0", "place(6) = 28")
            // Five entries need two blocks.
            .on("disc 30 0;" + FIVE, "write({0 1 2 3 4}, 1, 1)", "crash()", "recover() = 5", "session(1, {2 4}) = 2 5",
                "size(4) = 7");
        Sentence.of(heading, "Returns the number of versions that are recovered.")
            .on("disc 30 0;file a;file b;file c;", "write(0, 1, 1)", "write(1, 2, 1)", "write(0, 1, 2)", "write(2, 1, 3)",
                "crash()", "recover() = 3", "undo()", "scratch(3)", "recover() = 3", "entry(1, *, 1) = 0 1 3",
                "undo()", "scratch(4)", "recover() = 2");
        Sentence.of(heading, REFUSED)
            .on("disc 30 0;file a;", "recover() throws IllegalState", "write(0, 1, 1)", "recover() throws IllegalState",
                "crash()",
                "recover() = 1", "recover() throws IllegalState", "write(0, 1, 1)", "crash()", "write(0, 1, 1)", "close()",
                "recover() throws IllegalState", "erase(0)", "crash()", "recover() throws IllegalState")
            .on("disc 30 0;file a;write a 2 1;", "crash()", "scratch(1)", "recover() throws IllegalState",
                "session(0, 0) = 2")
            .on("disc 40 0;file a;", "11 times: write(0, 1, 1); close()", "write(0, 1, 1)", "crash()",
                "recover() throws IllegalState", "session(11, 0) = 2")
            .on("disc 8 1;file a;write a 1 1;", "scratch({1 7})", "crash()", "recover() throws IllegalState",
                "session(0, 0) = 2",
                "block({1 7}, 0) = 0 0");
    }

    private static void promise28() {
        String heading = "Promise 28";
        Sentence.of(heading, "Scratches a block.")
            .on("disc 12 3;file a;bad 1;write a 2 1;close;", "scratch({0 1 2 3 9})",
                "block(*, 1) = 0 1 0 1 0 0 0 0 0 0 0 0",
                "block(*, 2) = 1 1 1 0 0 0 0 0 0 1 0 0", "size(11) = 5");
        Sentence.of(heading, "Returns true if it was not bad (an empty block) or not unreadable (any other one) before.")
            .on("disc 12 3;file a;bad 1;bad 5;write a 2 1;bad 0;close;", "scratch({6 6}) = true false",
                "scratch(5) = false",
                "scratch({0 0}) = true false", "scratch({1 1}) = true false", "scratch({2 2}) = true false",
                "scratch({9 9}) = true false", "scratch({10 10}) = true false", "undo()", "undo()", "scratch(10) = true")
            // An empty block that was scratched and fails then is not unreadable yet.
            .on("disc 12 3;file a;", "scratch(0) = true", "write(0, 1, 1)", "block(0, *) = 3 1 0 0 -1 -1 -1",
                "scratch(0) = true",
                "scratch(0) = false");
        Sentence.of(heading, "Throws `IndexOutOfBoundsException` if there is no such block")
            .on("disc 12 3;", "scratch({-1 12 max min}) throws IndexOutOfBounds", "size(11) = 0",
                "scratch({0 11}) = true true");
    }

    private static void promise29() {
        String heading = "Promise 29";
        Sentence.of(heading, "Sets whether sessions are searched with scan.")
            .on("disc 20 0;file a;write a 1 1;close;write a 1 2;close;", "scratch(3)", "file(0, 0) = 0", "setScan(true)",
                "size(10) = 1", "file(0, {0 2}) = 1 0", "setScan(true)", "size(10) = 1", "setScan(false)", "size(10) = 0",
                "file(0, 0) = 0", "setScan(false)", "size({10 11}) = 0 5");
        Sentence.of(heading, "Returns whether it was so before.")
            .on("", "setScan(false) = false", "setScan(true) = false", "setScan(true) = true", "setScan(false) = true",
                "setScan(false) = false", "undo()", "undo()", "setScan(false) = true");
    }

    private static void promise30() {
        String heading = "Promise 30";
        Sentence.of(heading, "Undoes the latest change that has not been undone.")
            .on("disc 30 2;file a;", "write(0, 1, {0 1 2 3 4 5 6 7 8 9})", "write(0, 1, {10 11 12})", "5 times: undo()",
                "file(0, 4) = 7", "size({4 12}) = 8 8", "write(0, 2, 500) = 8", "size(11) = 6", "undo() = 5",
                "file(0, 4) = 7",
                "undo() = 4", "file(0, 4) = 6", "4 times: undo()", "file(0, 4) = 2", "size({4 11}) = 3 0");
        Sentence.of(heading, "Returns the number of changes that can still be undone; NONE if there was none to undo.")
            .on("", "undo() = -1", "10 times: setScan(true)", "scratch(0)", "undo() = 9", "undo() = 8", "7 times: undo()",
                "undo() = 0", "undo() = -1", "undo() = -1", "scratch(0) = true", "undo() = 0", "undo() = -1")
            .on("", "scratch(0)", "undo() = 0", "block(0, 1) = 0")
            .on("", "scratch(0)", "parse \"disc 8 0;\" = 0", "undo() = -1", "scratch(0)", "saveSnapshot(0)",
                "restoreSnapshot(0)",
                "undo() = -1", "block(0, 1) = 1");
    }

    private static void promise30Kinds() {
        Sentence.of("Promise 30", "Undoes the latest change that has not been undone.")
            .on("disc 30 4;file a;file b;bad 2;bad 26;write b 1 1;close;", "write(0, 3, 8)",
                "size(*) = 30 4 2 2 5 2 2 2 2 1 0 1 2", "undo()", "size(*) = 30 4 2 1 2 4 2 1 1 0 0 0 1",
                "block({2 26 27}, 0) = 0 0 0",
                "place({2 3 4}) = -1 -1 -1", "block(27, *) = 0 0 0 -1 -1 -1 -1", "block(26, *) = 0 1 0 -1 -1 -1 -1",
                "block(2, *) = 0 1 0 -1 -1 -1 -1", "block(3, *) = 0 0 0 -1 -1 -1 -1", "defect(0, true) = -1")
            .on("disc 30 4;file a;write a 1 1;close;", "erase(0)", "undo()", "size({3 7 9}) = 1 1 0", "file(0, 2) = 0",
                "write(0, 1, 2)", "erase(0)", "undo()", "entry(1, 0, *) = 0 1 2 1 2")
            .on("disc 30 4;file a;write a 1 1;bad 1;", "close()", "undo()", "session(0, *) = 0 0 1 1 -1 0 -1 1 0",
                "block({1 26}, 0) = 0 0", "size({4 9}) = 1 1", "crash()", "undo()", "session(0, *) = 0 0 1 1 -1 0 -1 1 0",
                "entry(0, 0, *) = 0 0 0 1 1", "crash()", "recover()", "undo()", "session(0, *) = 2 0 1 0 -1 0 -1 0 0",
                "size({3 4 5}) = 1 1 4", "couldRecover() = 1")
            .on("disc 30 4;file a;write a 1 1;", "scratch(0)", "undo()", "block(0, 2) = 0", "scratch(5)", "undo()",
                "block(5, 1) = 0",
                "setScan(true)", "undo()", "size(10) = 0");
    }

    private static void promise31() {
        String heading = "Promise 31";
        Sentence.of(heading, "Saves a snapshot in a slot, in place of an earlier one.")
            .on("disc 30 4;file a;", "write(0, 1, 1)", "saveSnapshot({0 1})", "close()", "saveSnapshot(1)",
                "size(11) = 2", "undo()",
                "restoreSnapshot(1) = 1", "session(0, 0) = 1", "restoreSnapshot(0) = 1", "session(0, 0) = 0");
        Sentence.of(heading, "Returns whether there was an earlier one.")
            .on("", "saveSnapshot(1) = false", "saveSnapshot(0) = false", "saveSnapshot(0) = true",
                "saveSnapshot(1) = true",
                "restoreSnapshot(0)", "saveSnapshot(0) = true", "undo()", "saveSnapshot(1) = true",
                "parse \"disc 8 5;\" = 3 7",
                "saveSnapshot(1) = true", "parse \"disc 8 0;\" = 0",
                "saveSnapshot(1) = false");
        Sentence.of(heading, NO_SLOT).on("", "saveSnapshot({-1 2 max min}) throws IndexOutOfBounds",
            "saveSnapshot({0 1}) = false false");
    }

    private static void promise32() {
        String heading = "Promise 32";
        Sentence.of(heading, "Restores the snapshot of a slot, which stays stored.")
            .on("disc 30 4;file a;write a 1 1;", "saveSnapshot(1)", "close()", "write(0, 1, 2)", "restoreSnapshot(1) = 1",
                "size({3 4 9 12}) = 1 1 1 1", "crash()", "write(0, 5, 1)", "restoreSnapshot(1) = 1",
                "size({3 4 9 12}) = 1 1 1 1",
                "saveSnapshot(0) = false", "close()", "restoreSnapshot(0) = 1", "session(0, 0) = 0");
        Sentence.of(heading, "The undo history is cleared.")
            .on("disc 30 4;file a;", "write(0, 1, 1)", "saveSnapshot(0)", "write(0, 1, 2)", "size(11) = 2",
                "restoreSnapshot(0)",
                "size(11) = 0", "undo() = -1", "file(0, 4) = 1", "write(0, 1, 3)", "undo() = 0", "undo() = -1",
                "file(0, 4) = 1");
        Sentence.of(heading, "Returns the number of sessions then.")
            .on("disc 30 4;file a;", "saveSnapshot(0)", "write(0, 1, 1)", "crash()", "write(0, 1, 1)", "saveSnapshot(1)",
                "close()",
                "erase(0)", "restoreSnapshot(1) = 2", "restoreSnapshot(0) = 0", "size(3) = 0");
        // What was written over since is as it was, also the number of blocks of a directory.
        Sentence.of(heading, "Restores the snapshot of a slot, which stays stored.")
            .on("disc 30 4;" + FIVE, "saveSnapshot(0)", "write(4, 2, 7)", "write({0 1 2 3}, 1, 1)", "close()", "erase(2)",
                "write(1, 1, 8)", "saveSnapshot(1)", "restoreSnapshot(0) = 0", "scratch({0 2})", "write(1, 1, 9)",
                "close()",
                "write(0, 3, 5)", "crash()", "write(3, 1, 1)", "close()", "erase(3)", "restoreSnapshot(1) = 2",
                "session(0, *) = 1 0 8 5 6 1 -1 1 0", "session(1, *) = 0 8 1 2 -1 0 -1 1 0",
                "entry(0, *, 0) = 4 0 1 2 3 -1",
                "entry(0, 0, *) = 4 0 0 2 7", "entry(0, 1, *) = 0 1 2 1 1", "entry(1, 0, *) = 2 -1 -1 0 -1",
                "entry(1, 1, *) = 1 5 8 1 8", "file(*, 6) = 1 2 1 1 1", "file(*, 2) = 1 5 -1 4 0", "block(*, 2) = 0 0 0 0",
                "block(*, 3) = 0 0 0 0 0 0 0 0 1 -1 -1", "block(*, 4) = 0 0 1 2 3 4 -1 -1 5 -1 -1",
                "block(*, 5) = 0 1 0 0 0 0 0 1 0 -1 -1", "block(26, *) = 0 0 0 -1 -1 -1 -1", "entry(0, 2, *) = 1 2 3 1 1",
                "scratch(7)", "session(0, 5) = 0", "crash() = 1", "couldRecover() = 1", "recover() = 1",
                "entry(2, 0, *) = 1 5 8 1 8");
        Sentence.of(heading, NO_SLOT + " (checked first)").on("", "restoreSnapshot({-1 2 max min}) throws IndexOutOfBounds",
            "saveSnapshot({0 1})", "restoreSnapshot({-1 2 max min}) throws IndexOutOfBounds");
        Sentence.of(heading, "Throws `IllegalStateException` if the slot is empty")
            .on("", "restoreSnapshot({0 1}) throws IllegalState", "saveSnapshot(1)",
                "restoreSnapshot(0) throws IllegalState",
                "restoreSnapshot(1) = 0", "parse \"disc 8 0;\" = 0", "restoreSnapshot({0 1}) throws IllegalState");
    }

    private static void promise32State() {
        Sentence.of("Promise 32", "Restores the snapshot of a slot, which stays stored.")
            .on("disc 20 4;file a;file b;bad 1;write a 2 3;close;", "setScan(true)", "scratch({0 7 17})", "write(1, 2, 4)",
                "saveSnapshot(0)", "erase(0)", "crash()", "scratch({2 16 18 8})", "setScan(false)", "recover() = 1",
                "write(0, 2, 9)", "restoreSnapshot(0) = 2", "size(*) = 20 4 2 2 5 3 3 2 1 1 1 0 2",
                "block(*, 0) = 1 3 2 1 1 0 0 0 0 0 0 0 0 0 0 0 1 0 0 0",
                "block(*, 1) = 0 1 0 0 0 0 0 1 0 0 0 0 0 0 0 0 0 1 0 0",
                "block(*, 2) = 1 0 0 0 0 0 0 0 0 0 0 0 0 0 0 0 0 0 0 0", "block(*, 3) = 0 0 0 1 1 -1",
                "block(*, 4) = 0 -1 -1 1 1 -1",
                "block(*, 5) = 0 -1 0 0 1 -1", "block(16, *) = 1 0 0 0 0 1 1", "place(*) = 0 16 2 3 4 -1",
                "session(0, *) = 1 0 3 1 2 1 -1 1 1", "session(1, *) = 0 3 2 1 -1 0 -1 1 0", "entry(1, 0, *) = 1 1 3 2 4",
                "entry(1, 1, 0) = -1", "file(0, *) = 1 0 0 2 3 0 1", "file(1, *) = 1 1 1 2 4 1 1");
    }
}
