import java.io.IOException;

/** Each sentence of the promises 7 to 22. */
public final class ViewSentenceTest {
    private static final String NO_BLOCK = "Throws `IndexOutOfBoundsException` if there is no such block";
    private static final String NO_SESSION = "Throws `IndexOutOfBoundsException` if there is no such session";
    private static final String NO_FILE = "Throws `IndexOutOfBoundsException` if there is no such file";
    private static final String FIRST = " (checked first)";
    private static final String NO_WHAT = "Throws `IllegalArgumentException` if what is out of range";
    private static final String FIVE = "file a;file b;file c;file d;file e;";
    // Blocks: 0 data, 1 failed (data in 16), 2 directory, 3 data, 4 directory; the second session hides file ab.
    private static final String TWO =
        "disc 20 4;file ab;file c;bad 1;write ab 2 5;close;write c 1 7;erase ab;close;";
    // Blocks: 0 data, 1 failed (data in 9), 2 data, 3 failed (data in 10), 4 directory, 8 failed.
    private static final String BAD =
        "disc 12 4;file a;file b;bad 1;bad 8;bad 3;write a 3 5;bad 0;write b 1 6;close;";

    public static void main(String[] args) throws IOException {
        promise7();
        promise7Holders();
        promise8();
        promise9();
        promise9Directories();
        promise10();
        promise11();
        promise11Entries();
        promise12();
        promise13();
        promise14();
        promise15();
        promise16();
        promise17();
        promise18();
        promise19();
        promise20();
        promise21();
        promise22();
        Sentence.end();
    }

    private static void promise7() {
        String heading = "Promise 7";
        Sentence.of(heading, "Returns a property of a block.")
            .on(BAD, "block(0, *) = 1 1 0 0 0 0 -1", "block(1, *) = 3 1 0 0 -1 -1 -1", "block(2, *) = 1 0 0 0 0 2 -1",
                "block(3, *) = 3 1 0 0 -1 -1 -1", "block(4, *) = 2 0 0 0 -1 0 -1", "block(5, *) = 0 0 0 -1 -1 -1 -1",
                "block(8, *) = 3 1 0 0 -1 -1 -1", "block(9, *) = 1 0 0 0 0 1 1", "block(10, *) = 1 0 0 0 1 0 3",
                "block(11, *) = 0 0 0 -1 -1 -1 -1");
        Sentence.of(heading, "- `what`: 0 0 if it is empty, 1 data, 2 a part of a directory, 3 failed;")
            .on(BAD, "block(*, 0) = 1 3 1 3 2 0 0 0 3 1 1 0")
            .on("disc 8 2;file a;bad 1;write a 1 1;close;", "block(*, 0) = 1 3 0 0 0 0 2 0", "scratch({0 5 6 7})",
                "block(*, 0) = 1 3 0 0 0 0 2 0");
        Sentence.of(heading, "1 1 if it is bad, otherwise 0;")
            .on(BAD, "block(*, 1) = 1 1 0 1 0 0 0 0 1 0 0 0", "scratch({5 11})", "block(*, 1) = 1 1 0 1 0 1 0 0 1 0 0 1",
                "scratch({2 4 9})", "block(*, 1) = 1 1 0 1 0 1 0 0 1 0 0 1");
        Sentence.of(heading, "2 1 if it is unreadable, otherwise 0;")
            .on(BAD, "block(*, 2) = 0 0 0 0 0 0 0 0 0 0 0 0", "scratch({0 1 4 5 8 9 11})",
                "block(*, 2) = 1 1 0 0 1 0 0 0 1 1 0 0");
        Sentence.of(heading, NO_BLOCK + FIRST)
            .on(BAD, "block({-1 12 max min}, 0) throws IndexOutOfBounds",
                "block({-1 12 max min}, 7) throws IndexOutOfBounds",
                "block({-1 12 max min}, -1) throws IndexOutOfBounds", "block({0 11}, 1) = 1 0");
        Sentence.of(heading, NO_WHAT)
            .on(BAD, "block(0, {-1 7 max min}) throws IllegalArgument", "block(11, {-1 7}) throws IllegalArgument",
                "block(3, {0 6}) = 3 -1");
    }

    private static void promise7Holders() {
        String heading = "Promise 7";
        Sentence.of(heading, "3 the session that wrote it (NONE if it is empty);")
            .on("disc 12 4;file a;bad 1;bad 8;write a 1 1;", "crash()", "write(0, 2, 2)", "close()",
                "block(*, 3) = 0 1 1 1 -1 -1 -1 -1 1 1 -1 -1", "scratch(5)", "block(5, 3) = -1");
        Sentence.of(heading, "4 the version of data (NONE);")
            .on(BAD, "block(*, 4) = 0 -1 0 -1 -1 -1 -1 -1 -1 0 1 -1")
            .on("disc 8 2;file a;bad 1;write a 1 1;close;", "block({1 6}, 4) = -1 -1");
        Sentence.of(heading, "5 the number among the blocks of its version or directory (NONE of empty and failed ones);")
            .on(BAD, "block(*, 5) = 0 -1 2 -1 0 -1 -1 -1 -1 1 0 -1")
            .on("disc 16 2;" + FIVE + "bad 6;write a 1 1;write b 1 1;write c 1 1;write d 1 1;write e 1 1;close;",
                "block({4 5 6 7 14 15}, 5) = 0 0 -1 -1 1 -1", "block(14, *) = 2 0 0 0 -1 1 6");
        Sentence.of(heading, "6 the block instead of which it was written (NONE if it was not, also of a failed one)")
            .on(BAD, "block(*, 6) = -1 -1 -1 -1 -1 -1 -1 -1 -1 1 3 -1")
            .on("disc 8 2;file a;bad 0;write a 1 1;close;", "block({6 7}, 6) = 0 -1");
    }

    private static void promise8() {
        String heading = "Promise 8";
        Sentence.of(heading, "Returns the place of a block of the main area.")
            .on(BAD, "place({0 1 2 3 4}) = 0 9 2 10 4", "scratch({0 1 9})", "place({0 1}) = 0 9");
        Sentence.of(heading, "Returns the block itself, or its spare block; NONE if it is empty, or not of the main area.")
            .on(BAD, "place(*) = 0 9 2 10 4 -1 -1 -1 -1 -1 -1 -1", "scratch({5 11})", "place({5 11}) = -1 -1")
            .on("disc 8 0;file a;write a 7 1;close;", "place(*) = 0 1 2 3 4 5 6 7");
        Sentence.of(heading, NO_BLOCK).on(BAD, "place({-1 12 max min}) throws IndexOutOfBounds", "place({0 11}) = 0 -1");
    }

    private static Sentence session(String words) {
        return Sentence.of("Promise 9", words);
    }

    private static void promise9() {
        session("Returns a property of a session.")
            .on(TWO, "session(0, *) = 1 0 3 1 2 1 -1 1 1", "session(1, *) = 1 3 2 2 4 1 0 1 0", "write(0, 2, 1)",
                "session(2, *) = 0 5 2 1 -1 0 -1 1 0", "crash()", "session(2, *) = 2 5 2 0 -1 0 -1 0 0", "recover()",
                "session(2, *) = 3 5 2 0 -1 0 -1 0 0", "session(3, *) = 1 7 1 1 7 1 1 1 0");
        session("- `what`: 0 its state: 0 open, 1 closed, 2 lost, 3 lost and recovered;")
            .on("disc 20 0;file a;write a 1 1;", "session(0, 0) = 0", "close()", "session(0, 0) = 1", "write(0, 1, 2)",
                "crash()",
                "session(*, 0) = 1 2", "recover()", "session(*, 0) = 1 3 1", "write(0, 1, 3)", "session(*, 0) = 1 3 1 0");
        session("1 its first block, which was next when it began;")
            .on("disc 20 2;file a;bad 3;write a 2 1;close;", "write(0, 1, 2)", "crash()", "recover()", "erase(0)",
                "session(*, 1) = 0 3 4 5", "close()", "erase(0) throws IllegalState", "write(0, 1, 1)", "write(0, 1, 1)",
                "session(*, 1) = 0 3 4 5 6");
        session("2 its blocks of the main area (data, directory and failed ones);")
            .on("disc 20 4;file a;bad 1;bad 16;write a 3 1;", "session(0, 2) = 3", "close()", "session(0, 2) = 4",
                "erase(0)",
                "session(1, 2) = 0", "close()", "session(*, 2) = 4 1", "write(0, 2, 1)", "crash()", "session(*, 2) = 4 1 2",
                "recover()", "session(*, 2) = 4 1 2 1");
        session("3 its entries (0 if it is lost);")
            .on("disc 20 0;file a;file b;write a 1 1;", "session(0, 3) = 1", "write(1, 1, 1)", "write(0, 1, 1)",
                "session(0, 3) = 2", "erase(1)", "session(0, 3) = 2", "close()", "session(0, 3) = 2", "write(0, 1, 1)",
                "crash()",
                "session(*, 3) = 2 0", "recover()", "session(*, 3) = 2 0 1");
        session("7 1 if it is reached, otherwise 0;")
            .on(TWO, "write(0, 1, 1)", "session(*, 7) = 1 1 1", "crash()", "session(*, 7) = 1 1 0", "scratch(4)",
                "session(*, 7) = 0 0 0", "setScan(true)", "session(*, 7) = 1 0 0", "recover()", "session(*, 7) = 1 0 0 1");
        session("8 blocks of the spare area that it wrote (also failed ones)")
            .on("disc 20 6;file a;bad 0;bad 1;bad 14;bad 16;write a 1 1;", "session(0, 8) = 2", "close()",
                "session(0, 8) = 4",
                "scratch(2)", "write(0, 1, 1)", "session(*, 8) = 4 1", "write(0, 1, 1)", "session(*, 8) = 4 1")
            .on("disc 8 0;file a;write a 7 1;close;", "session(0, 8) = 0");
        session(NO_SESSION + FIRST)
            .on(TWO, "session({-1 2 max min}, 0) throws IndexOutOfBounds",
                "session({-1 2 max min}, 9) throws IndexOutOfBounds",
                "session({-1 2 max min}, -1) throws IndexOutOfBounds", "session({0 1}, 1) = 0 3")
            .on("", "session({0 12}, 0) throws IndexOutOfBounds");
        session(NO_WHAT).on(TWO, "session({0 1}, 9) throws IllegalArgument",
            "session(1, {-1 9 max min}) throws IllegalArgument", "session(1, {0 8}) = 1 0");
    }

    private static void promise9Directories() {
        session("4 the first block of its directory (NONE without one);")
            .on("disc 20 4;" + FIVE + "bad 1;write a 1 1;", "session(0, 4) = -1", "close()", "session(0, 4) = 1",
                "write({0 1 2 3 4}, 1, 1)", "session(1, 4) = -1", "close()", "session(*, 4) = 1 7", "write(0, 1, 1)",
                "crash()",
                "session(*, 4) = 1 7 -1", "recover()", "session(*, 4) = 1 7 -1 10", "session(2, 4) = -1");
        session("5 1 if its directory can be read, otherwise 0;")
            .on("disc 20 4;file a;bad 1;write a 1 1;", "session(0, 5) = 0", "close()", "session(0, 5) = 1",
                "scratch({0 1 2})",
                "session(0, 5) = 1", "scratch(16)", "session(0, 5) = 0", "setScan(true)", "session(0, 5) = 0",
                "write(0, 2, 1)",
                "crash()", "session(*, 5) = 0 0", "recover()", "session(*, 5) = 0 0 1")
            // A directory that can be read counts also if the session is not reached.
            .on(TWO, "scratch(4)", "session(*, 5) = 1 0", "session(*, 7) = 0 0");
        session("6 the session to which its directory is linked (NONE without one, also if it has no directory);")
            .on("disc 30 0;file a;write a 1 1;", "session(0, 6) = -1", "close()", "session(0, 6) = -1", "write(0, 1, 1)",
                "session(1, 6) = -1", "crash()", "session(1, 6) = -1", "recover()", "session(*, 6) = -1 -1 0",
                "write(0, 1, 1)",
                "crash()", "write(0, 1, 1)", "close()", "session(*, 6) = -1 -1 0 -1 2")
            .on("disc 30 0;file a;write a 1 1;", "crash()", "write(0, 1, 1)", "close()", "session(*, 6) = -1 -1");
    }

    private static void promise10() {
        String heading = "Promise 10";
        Sentence.of(heading, "Returns a part of an entry of a session.")
            .on(TWO, "entry(0, 0, *) = 0 0 0 2 5", "entry(1, 0, *) = 1 1 3 1 7", "entry(1, 1, *) = 0 -1 -1 0 -1");
        Sentence.of(heading, "- `part`: 0 the file, 1 the version (NONE if it is erased), 2 the first block (NONE), "
            + "3 the length (0), 4 the tag (NONE)")
            .on(TWO, "write(0, 1, 11)", "write(1, 2, 0)", "write(0, 3, 999)", "entry(2, 0, *) = 0 4 8 3 999",
                "entry(2, 1, *) = 1 3 6 2 0", "erase(0)", "entry(2, 0, *) = 0 -1 -1 0 -1", "entry(2, 1, *) = 1 3 6 2 0")
            // The first block is one of the main area, also if it was relocated.
            .on("disc 20 4;file a;bad 0;write a 2 5;", "entry(0, 0, *) = 0 0 0 2 5");
        Sentence.of(heading, "Returns the part; NONE if it has not so many entries, or k is negative.")
            .on(TWO, "entry(0, {0 1 2}, 0) = 0 -1 -1", "entry(1, {1 2 9 10 max}, 0) = 0 -1 -1 -1 -1",
                "entry(1, {-1 -10 min}, 0) = -1 -1 -1", "entry(1, 2, *) = -1 -1 -1 -1 -1",
                "entry(1, -1, *) = -1 -1 -1 -1 -1",
                "write(0, 1, 1)", "entry(2, {0 1}, 3) = 1 -1", "crash()", "entry(2, 0, *) = -1 -1 -1 -1 -1");
        Sentence.of(heading, NO_SESSION + FIRST)
            .on(TWO, "entry({-1 2 max min}, 0, 0) throws IndexOutOfBounds", "entry({-1 2}, 0, 5) throws IndexOutOfBounds",
                "entry({-1 2}, 0, -1) throws IndexOutOfBounds", "entry({-1 2}, -1, 0) throws IndexOutOfBounds");
        Sentence.of(heading, "Throws `IllegalArgumentException` if part is out of range")
            .on(TWO, "entry(0, 0, {-1 5 max min}) throws IllegalArgument", "entry(0, {-1 9}, 5) throws IllegalArgument",
                "entry(0, 0, {0 4}) = 0 5");
    }

    private static Sentence file(String words) {
        return Sentence.of("Promise 11", words);
    }

    private static void promise11() {
        String three = TWO.replace("file c;", "file c;file d;");
        file("Returns a property of a file.")
            .on(three, "file(0, *) = 0 0 -1 0 -1 1 1", "file(1, *) = 1 1 1 1 7 1 1", "file(2, *) = 0 0 -1 0 -1 -1 0",
                "write(0, 2, 9)", "file(0, *) = 1 1 2 2 9 2 2");
        file("- `what`: 0 1 if it is there, otherwise 0;")
            .on(three, "file(*, 0) = 0 1 0", "scratch(3)", "file(*, 0) = 0 1 0", "write(2, 1, 1)", "erase(1)",
                "file(*, 0) = 0 0 1", "crash()", "file(*, 0) = 0 1 0", "scratch(4)", "file(*, 0) = 0 0 0", "setScan(true)",
                "file(*, 0) = 1 0 0");
        file("1 1 if it is there and readable, otherwise 0;")
            .on(three, "file(*, 1) = 0 1 0", "scratch(0)", "file(*, 1) = 0 1 0", "scratch(3)", "file(*, 1) = 0 0 0",
                "write(1, 1, 1)", "file(*, 1) = 0 1 0", "erase(1)", "file(*, 1) = 0 0 0")
            // Its blocks can be read, but it is not there.
            .on("disc 20 0;file a;write a 1 1;close;", "scratch(1)", "file(0, {0 1}) = 0 0");
        file(NO_FILE + FIRST)
            .on(three, "file({-1 3 max min}, 0) throws IndexOutOfBounds", "file({-1 3 max min}, 7) throws IndexOutOfBounds",
                "file({-1 3}, -1) throws IndexOutOfBounds", "file({0 2}, 6) = 1 0")
            .on("", "file(0, 0) throws IndexOutOfBounds");
        file(NO_WHAT).on(three, "file(0, {-1 7 max min}) throws IllegalArgument", "file(2, 7) throws IllegalArgument",
            "file(1, {0 6}) = 1 1");
    }

    private static void promise11Entries() {
        file("2 its version (NONE if it is not there);")
            .on(TWO, "file(*, 2) = -1 1", "write(0, 1, 1)", "file(*, 2) = 2 1", "scratch(5)", "file(*, 2) = 2 1",
                "erase(0)",
                "file(*, 2) = -1 1");
        file("3 its length (0);").on(TWO, "file(*, 3) = 0 1", "write(0, 8, 1)", "file(*, 3) = 8 1", "erase(1)",
            "file(*, 3) = 8 0");
        file("4 its tag (NONE);").on(TWO, "file(*, 4) = -1 7", "write(0, 1, 0)", "file(*, 4) = 0 7", "write(0, 1, 999)",
            "file(*, 4) = 999 7", "erase(1)", "file(*, 4) = 999 -1");
        file("5 the session whose entry counts, also one that tells that it is erased (NONE without one);")
            .on(TWO, "file(*, 5) = 1 1", "write(0, 1, 1)", "file(*, 5) = 2 1", "crash()", "file(*, 5) = 1 1", "scratch(4)",
                "file(*, 5) = -1 -1", "setScan(true)", "file(*, 5) = 0 -1", "erase(0)", "file(*, 5) = 3 -1")
            // A recovered version counts by the session that tells it, not by the one that wrote it.
            .on("disc 20 0;file a;write a 2 5;", "crash()", "file(0, 5) = -1", "recover()", "file(0, *) = 1 1 0 2 5 1 1");
        file("6 versions of it on the disc")
            .on(TWO, "file(*, 6) = 1 1", "write(0, 1, 1)", "write(0, 1, 1)", "crash()", "file(*, 6) = 3 1",
                "scratch({0 5 6})",
                "file(*, 6) = 3 1", "recover() throws IllegalState", "undo()", "recover() = 1", "file(*, 6) = 3 1",
                "undo()",
                "undo()", "undo()", "undo()", "undo()", "file(*, 6) = 2 1");
    }

    private static void promise12() {
        String heading = "Promise 12";
        String one = "disc 20 4;file ab;file c;bad 1;write ab 2 5;close;";
        Sentence.of(heading, "Returns where a block of a file is.").on(one, "where(0, *) = 0 16", "write(0, 3, 1)",
            "where(0, *) = 3 4 5", "crash()", "where(0, *) = 0 16");
        Sentence.of(heading, "- `k`: its number among the blocks of the version that counts, from 0")
            .on(one, "write(0, 4, 1)", "scratch({4 5})", "where(0, *) = 3 4 5 6 -1", "close()", "where(0, *) = 3 4 5 6 -1");
        Sentence.of(heading, "Returns the place; NONE if the file is not there, or has not so many blocks, or k is negative.")
            .on(one, "where(0, {1 2 3 8 max}) = 16 -1 -1 -1 -1", "where(0, {-1 -2 min}) = -1 -1 -1",
                "where(1, {0 -1}) = -1 -1",
                "erase(0)", "where(0, {0 1}) = -1 -1", "undo()", "scratch(2)", "where(0, 0) = -1");
        Sentence.of(heading, NO_FILE).on(one, "where({-1 2 max min}, 0) throws IndexOutOfBounds",
            "where({-1 2}, -1) throws IndexOutOfBounds");
    }

    private static void promise13() {
        String heading = "Promise 13";
        Sentence.of(heading, "Returns a part of the defect list: the blocks of the main area that were relocated by sessions "
            + "that are not lost (or are recovered), ascending.")
            .on("disc 20 6;file a;bad 1;bad 3;bad 5;bad 14;bad 16;write a 2 5;close;", "defect(*, false) = 1 -1",
                "defect(*, true) = 15 -1", "write(0, 1, 1)", "defect(*, false) = 1 3 -1", "defect(*, true) = 15 17 -1",
                "crash()",
                "defect(*, false) = 1 -1", "recover()", "defect(*, false) = 1 3 -1", "write(0, 1, 1)",
                "defect(*, false) = 1 3 5 -1", "defect(*, true) = 15 17 18 -1")
            // A session amid others is lost; a bad block that was written ahead of that was never relocated.
            .on("disc 20 4;file a;bad 0;bad 1;bad 3;write a 1 1;", "crash()", "write(0, 1, 2)", "close()", "write(0, 1, 3)",
                "scratch({5 2})", "defect(*, false) = 1 3 -1", "defect(*, true) = 17 18 -1")
            .on("disc 20 4;file a;write a 1 1;bad 0;bad 1;close;", "defect(*, false) = 1 -1", "defect(*, true) = 16 -1")
            // The first and the last block of the main area.
            .on("disc 8 4;file a;bad 0;bad 3;bad 4;write a 3 1;close;", "defect(*, false) = 0 3 -1",
                "defect(*, true) = 5 6 -1");
        Sentence.of(heading, "- `spare`: true for the spare block, false for the block")
            .on("disc 20 4;file a;bad 2;write a 4 5;", "defect(0, true) = 16", "defect(0, false) = 2");
        Sentence.of(heading, "Returns the number of a block; NONE if there are not so many, or k is negative.")
            .on("disc 20 4;file a;bad 2;write a 4 5;", "defect({1 2 max}, true) = -1 -1 -1",
                "defect({1 max}, false) = -1 -1",
                "defect({-1 min}, true) = -1 -1", "defect({-1 min}, false) = -1 -1")
            .on("", "defect({0 -1}, true) = -1 -1", "defect({0 -1}, false) = -1 -1");
    }

    private static void promise14() {
        String heading = "Promise 14";
        String disc = "disc 10 2;file a;file b;file c;file d;file e;bad 3;bad 4;bad 8;";
        Sentence.of(heading, "Returns why a version of a length cannot be written for a file now.")
            .on(disc, "whyNotWrite(0, {1 3 4 5 7 8}) = 0 0 0 5 5 4", "size({3 4 11}) = 0 0 0", "write({0 1 2}, 1, 1)",
                "whyNotWrite(3, {1 3 4 5}) = 0 5 5 4", "write(3, 1, 1)", "whyNotWrite(4, {1 2 3}) = 5 5 4",
                "whyNotWrite(3, {3 4}) = 5 4");
        Sentence.of(heading, "Returns 0 if it can; otherwise the first reason that applies (3 to 5).")
            .on("disc 40 0;file a;", "11 times: write(0, 1, 1); close()", "whyNotWrite(0, 8) = 0", "write(0, 1, 1)",
                "whyNotWrite(0, 8) = 0", "close()", "whyNotWrite(0, 8) = 3")
            .on("disc 12 2;file a;bad 4;bad 5;bad 6;", "whyNotWrite(0, {6 7}) = 0 5", "write(0, 3, 1)",
                "whyNotWrite(0, {6 7}) = 5 4", "crash()", "scratch(10)", "whyNotWrite(0, {2 3}) = 0 5");
        Sentence.of(heading, NO_FILE + FIRST)
            .on(disc, "whyNotWrite({-1 5 max min}, 1) throws IndexOutOfBounds",
                "whyNotWrite({-1 5}, 0) throws IndexOutOfBounds",
                "whyNotWrite({-1 5}, 9) throws IndexOutOfBounds", "whyNotWrite({0 4}, 1) = 0 0");
        Sentence.of(heading, "Throws `IllegalArgumentException` if length is not 1 to 8")
            .on(disc, "whyNotWrite(0, {-1 0 9 max min}) throws IllegalArgument", "whyNotWrite(0, {1 8}) = 0 4");
    }

    private static void promise15() {
        String heading = "Promise 15";
        Sentence.of(heading, "Returns why something is refused now.")
            .on("disc 8 1;file a;file b;", "whyNot(*) = 1 1 2", "write(0, 1, 1)", "whyNot(*) = 0 0 2", "scratch(1)",
                "whyNot(*) = 0 0 2", "scratch(7)", "whyNot(*) = 5 0 2", "crash()", "whyNot(*) = 1 1 5", "size(11) = 4",
                "scratch(0)", "whyNot(*) = 1 1 2");
        Sentence.of(heading, "- `what`: 0 close, 1 crash, 2 recover")
            .on("disc 8 0;file a;write a 1 1;bad 1;", "whyNot(0) = 5", "whyNot(1) = 0", "whyNot(2) = 2")
            .on("disc 8 0;file a;write a 1 1;", "crash()", "whyNot(0) = 1", "whyNot(1) = 1", "whyNot(2) = 0");
        Sentence.of(heading, "Returns 0 if it is not; otherwise the first reason that applies.")
            .on("disc 40 0;file a;", "11 times: write(0, 1, 1); close()", "write(0, 1, 1)", "whyNot(*) = 0 0 2", "crash()",
                "whyNot(*) = 1 1 3", "scratch(23)", "whyNot(*) = 1 1 3", "scratch(22)", "whyNot(*) = 1 1 2", "undo()",
                "undo()",
                "undo()", "close()", "whyNot(*) = 1 1 2")
            .on("disc 8 0;file a;write a 1 1;", "crash()", "whyNot(2) = 0", "scratch(1)", "whyNot(2) = 5", "scratch(0)",
                "whyNot(2) = 2");
        Sentence.of(heading, NO_WHAT).on("disc 8 0;", "whyNot({-1 3 max min}) throws IllegalArgument",
            "whyNot({0 2}) = 1 2");
    }

    private static void promise16() {
        String heading = "Promise 16";
        Sentence.of(heading, "Returns how many versions would be recovered now.")
            .on("disc 30 1;file a;file b;file c;write a 1 1;close;", "write(0, 1, 1)", "write(1, 2, 1)", "write(0, 2, 2)",
                "write(2, 1, 2)", "erase(2)", "crash()", "couldRecover() = 3", "scratch(6)", "couldRecover() = 3",
                "scratch(2)",
                "couldRecover() = 2", "scratch(4)", "couldRecover() = 1", "scratch(7)", "couldRecover() = 0",
                "size(11) = 10",
                "undo()", "couldRecover() = 1", "recover() = 1");
        Sentence.of(heading, "Returns the number; 0 if the latest session is not a lost one, or a session is open.")
            .on("", "couldRecover() = 0")
            .on("disc 30 0;file a;write a 1 1;", "couldRecover() = 0", "crash()", "couldRecover() = 1", "recover() = 1",
                "couldRecover() = 0", "write(0, 1, 1)", "couldRecover() = 0", "crash()", "couldRecover() = 1",
                "write(0, 1, 1)",
                "couldRecover() = 0", "close()", "couldRecover() = 0")
            .on("disc 30 0;file a;write a 1 1;close;erase a;", "crash()", "couldRecover() = 0")
            // No other reason against recover makes it 0.
            .on("disc 40 0;file a;", "12 times: write(0, 1, 1); crash()", "whyNot(2) = 3", "couldRecover() = 1")
            .on("disc 8 0;file a;write a 1 1;bad 1;", "crash()", "whyNot(2) = 5", "couldRecover() = 1");
    }

    private static void promise17() {
        String heading = "Promise 17";
        Sentence.of(heading, "Returns how many files that are there and readable would not be so any more if a block was "
            + "scratched now.")
            .on(TWO, "risk(*) = 0 0 0 1 1 0 0 0 0 0 0 0 0 0 0 0 0 0 0 0", "block({3 4 5}, 2) = 0 0 0",
                "size({8 11}) = 1 0", "write(0, 1, 3)", "risk(5) = 1", "close()", "risk({3 4 5 6}) = 1 1 1 2",
                "setScan(true)",
                "risk({3 4 5 6}) = 1 1 1 1", "scratch(5)", "risk({3 4 5 6}) = 1 1 0 0")
            .on("disc 20 2;file a;bad 0;write a 1 1;close;", "risk({0 1 2 18 19}) = 0 1 0 1 0", "scratch({0 18})",
                "risk({1 18}) = 0 0")
            // Without the newer directory an older version is there and readable again, or one that cannot be read.
            .on("disc 20 0;file a;write a 1 1;close;write a 1 2;close;", "risk({0 1 2 3}) = 0 0 1 1", "setScan(true)",
                "risk({0 1 2 3}) = 0 0 1 0", "scratch(0)", "risk({2 3}) = 1 1")
            // A file that the scratch brings back is no loss, and makes up for none.
            .on("disc 20 0;file a;file b;write a 1 1;close;erase a;write b 1 1;close;", "setScan(true)",
                "risk({2 3}) = 1 1");
        Sentence.of(heading, NO_BLOCK).on(TWO, "risk({-1 20 max min}) throws IndexOutOfBounds", "risk({0 19}) = 0 0");
    }

    private static void promise18() {
        String heading = "Promise 18";
        Sentence.of(heading, "Returns the block with the greatest risk.")
            .on(TWO, "write(0, 1, 3)", "close()", "weakest() = 6", "scratch(4)", "weakest() = 5", "scratch(6)",
                "weakest() = 0",
                "size(11) = 4")
            .on("disc 20 2;file a;bad 0;bad 1;write a 1 1;close;", "weakest() = 18");
        Sentence.of(heading, "Returns the block, of several the one with the least number.")
            .on("", "weakest() = 0")
            .on(TWO, "weakest() = 3")
            .on("disc 20 0;file a;write a 2 1;close;", "weakest() = 0", "scratch(0)", "weakest() = 0")
            .on("disc 20 0;file a;file b;write a 1 1;erase a;write b 2 1;close;", "weakest() = 1");
    }

    private static void promise19() {
        String heading = "Promise 19";
        Sentence.of(heading, "Returns how many files would be there if the sessions from some one on had not been (all others "
            + "being reached as now).")
            .on(TWO, "filesBefore(*) = 0 1", "write(0, 1, 1)", "filesBefore(*) = 0 1 1", "crash()",
                "filesBefore(*) = 0 1 1");
        Sentence.of(heading, "- `session`: a session")
            .on("disc 20 0;file a;file b;write a 1 1;close;write b 1 1;close;", "erase(0)", "filesBefore(*) = 0 1 2",
                "write(0, 1, 2)", "filesBefore(*) = 0 1 2");
        Sentence.of(heading, "Returns the number of files that are there by the sessions before it alone; those before it that "
            + "are reached now count.")
            .on(TWO, "write(0, 1, 1)", "scratch(4)", "filesBefore(*) = 0 0 0", "setScan(true)", "filesBefore(*) = 0 1 1",
                "scratch(2)", "filesBefore(*) = 0 0 0")
            // A file counts also if it is not readable.
            .on(TWO, "write(0, 1, 1)", "scratch({0 3})", "filesBefore(*) = 0 1 1");
        Sentence.of(heading, NO_SESSION).on(TWO, "filesBefore({-1 2 max min}) throws IndexOutOfBounds",
            "filesBefore({0 1}) = 0 1").on("", "filesBefore(0) throws IndexOutOfBounds");
    }

    private static void promise20() {
        String heading = "Promise 20";
        Sentence.of(heading, "Counts the blocks of the whole disc by their use.")
            .on(TWO, "space(*) = 14 1 2 2 1", "write(0, 3, 1)", "space(*) = 11 4 2 2 1")
            .on("", "space(*) = 8 0 0 0 0");
        Sentence.of(heading, "- `use`: 0 empty, 1 data of versions that count, 2 data that is hidden (of all other versions), "
            + "3 directories, 4 failed")
            .on(TWO, "scratch({15 3 16})", "space(*) = 14 1 2 2 1", "write(0, 3, 1)", "write(0, 2, 1)",
                "space(*) = 9 3 5 2 1",
                "crash()", "space(*) = 9 1 7 2 1", "scratch(4)", "space(*) = 9 0 8 2 1", "setScan(true)",
                "space(*) = 9 2 6 2 1",
                "recover()", "space(*) = 8 2 6 3 1", "erase(0)", "space(*) = 8 0 8 3 1")
            .on("disc 20 4;" + FIVE + "bad 5;bad 6;bad 17;", "write({0 1 2 3 4}, 1, 1)", "close()",
                "space(*) = 10 5 0 2 3");
        Sentence.of(heading, "Throws `IllegalArgumentException` if use is out of range")
            .on(TWO, "space({-1 5 max min}) throws IllegalArgument", "space({0 4}) = 14 1");
    }

    private static void promise21() {
        String heading = "Promise 21";
        Sentence.of(heading, "Counts the blocks that a session wrote by their use.")
            .on(TWO, "spaceOf(0, {1 2 3 4}) = 0 2 1 1", "spaceOf(1, {1 2 3 4}) = 1 0 1 0", "write(0, 3, 1)",
                "write(0, 2, 1)",
                "spaceOf(2, {1 2 3 4}) = 2 3 0 0", "crash()", "spaceOf(2, {1 2 3 4}) = 0 5 0 0", "recover()",
                "spaceOf(2, {1 2 3 4}) = 2 3 0 0", "spaceOf(3, {1 2 3 4}) = 0 0 1 0");
        Sentence.of(heading, "- `use`: as for space, but not 0")
            .on("disc 20 4;file a;bad 0;bad 16;bad 2;write a 2 1;close;", "spaceOf(0, {1 2 3 4}) = 2 0 1 3",
                "spaceOf(0, 0) throws IllegalArgument");
        Sentence.of(heading, NO_SESSION + FIRST)
            .on(TWO, "spaceOf({-1 2 max min}, 1) throws IndexOutOfBounds", "spaceOf({-1 2}, 0) throws IndexOutOfBounds",
                "spaceOf({-1 2}, 5) throws IndexOutOfBounds", "spaceOf({0 1}, 3) = 1 1");
        Sentence.of(heading, "Throws `IllegalArgumentException` if use is not 1 to 4")
            .on(TWO, "spaceOf(0, {-1 0 5 max min}) throws IllegalArgument", "spaceOf(0, {1 4}) = 0 1");
    }

    private static void promise22() {
        Sentence.of("Promise 22", "Returns the share of the written blocks whose data counts: space(1), converted to double, "
            + "divided by the number of blocks that are not empty; 1.0 if all are empty.")
            .on("", "share() = 1/1", "scratch(3)", "share() = 1/1")
            .on(TWO, "share() = 1/6", "scratch({9 3})", "share() = 1/6", "write(0, 1, 1)", "share() = 2/7", "crash()",
                "share() = 1/7", "scratch(4)", "share() = 0/7")
            .on("disc 8 0;file a;write a 2 1;", "share() = 2/2", "close()", "share() = 2/3", "erase(0)", "share() = 0/3")
            .on("disc 8 0;file a;write a 1 1;", "crash()", "share() = 0/1");
    }
}
