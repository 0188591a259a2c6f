import java.io.IOException;

/** Each sentence of the promises 1 to 6. */
public final class TextSentenceTest {
    public static void main(String[] args) throws IOException {
        promise1();
        promise2();
        promise3();
        promise4();
        promise5Counts();
        promise5States();
        promise6();
        Sentence.end();
    }

    private static void promise1() {
        Sentence.of("Promise 1", "Creates a disc as with the text \"disc 8 0;\", with an empty input buffer.")
            .on("", "size(*) = 8 0 0 0 0 0 0 0 0 0 0 0 0", "size(13) throws IllegalArgument")
            .on("", "block(*, 0) = 0 0 0 0 0 0 0 0", "block(*, 1) = 0 0 0 0 0 0 0 0", "block(8, 0) throws IndexOutOfBounds",
                "place(*) = -1 -1 -1 -1 -1 -1 -1 -1", "file(0, 0) throws IndexOutOfBounds",
                "session(0, 0) throws IndexOutOfBounds", "errorPosition() = -1", "undo() = -1",
                "restoreSnapshot({0 1}) throws IllegalState", "whyNot(*) = 1 1 2", "share() = 1/1")
            .on("", "parse({1 20}) throws IllegalArgument",
                "append(0x20202020, 0x20202020, 0x20202020, 0x20202020, 0x20202020) = 20")
            .on("", "find() = -1", "parse(0) = 1", "errorPosition() = 0")
            // A disc of the same text has nothing else, whatever was there before.
            .on("disc 20 4;file a;bad 3;write a 2 1;close;", "scratch(0)", "setScan(true)", "parse \"disc 8 0;\" = 0",
                "size(*) = 8 0 0 0 0 0 0 0 0 0 0 0 0", "block(*, 1) = 0 0 0 0 0 0 0 0", "block(*, 2) = 0 0 0 0 0 0 0 0");
    }

    private static void promise2() {
        Sentence.of("Promise 2",
            "Appends 20 bytes to the input buffer: the four bytes of each argument, the most significant byte first.")
            // "disc", " 10 ", "2;fi", "le a", "b;" and two spaces.
            .on("", "append(0x64697363, 0x20313020, 0x323b6669, 0x6c652061, 0x623b2020) = 20", "parse(20) = 0",
                "size({0 1 2}) = 10 2 1", "find \"ab\" = 0")
            // "disc", " 9 0", ";bad", " 1;b", "ad 2" in one call, ";bad", " 3;" and a byte above 127 in the next one.
            .on("", "append(0x64697363, 0x20392030, 0x3b626164, 0x20313b62, 0x61642032) = 20",
                "append(0x3b626164, 0x20333bff, 0x20202020, 0x20202020, 0x20202020) = 40", "parse(40) = 1",
                "errorPosition() = 27")
            .on("", "append(0x64697363, 0x20392030, 0x3b626164, 0x20313b62, 0x61642032) = 20",
                "append(0x3b626164, 0x20333bff, 0x20202020, 0x20202020, 0x20202020) = 40", "parse(27) = 0",
                "block(*, 1) = 0 1 1 1 0 0 0 0 0")
            // A sign bit in each argument, and in each of its bytes.
            .on("", "append(0x8020, 0x80, 0x800000, 0x80000000, 0xffffffff) = 20", "parse(20) = 1", "errorPosition() = 0");
        Sentence.of("Promise 2",
            "Returns the new length of the buffer; NONE, with nothing appended, if it would exceed 600.")
            .on("", "append \"disc 12 0;\"", "append(0x20202020, 0x20202020, 0x20202020, 0x20202020, 0x20202020) = 40",
                "27 times: append(0x20202020, 0x20202020, 0x20202020, 0x20202020, 0x20202020)",
                "append(0x20202020, 0x20202020, 0x20202020, 0x20202020, 0x20202020) = 600", "append(0, 0, 0, 0, 0) = -1",
                "append(0x3b3b3b3b, 0, 0, 0, 0) = -1", "parse(601) throws IllegalArgument", "parse(600) = 0",
                "size(0) = 12",
                "append(0, 0, 0, 0, 0) = 20", "append(0, 0, 0, 0, 0) = 40");
    }

    private static void promise3() {
        Sentence.of("Promise 3", "Parses the first length bytes of the input buffer as a text.")
            .on("", "append \"disc 12 0; disc\"", "parse(10) = 0", "size(0) = 12", "append \"disc 960 0; disc\"",
                "parse(7) = 1", "errorPosition() = 7", "append \"disc 20 0;bad 1234;\"", "parse(15) = 1",
                "errorPosition() = 15", "append \"disc 20 0;file abcdefghi;\"", "parse(23) = 1", "errorPosition() = 23",
                "append \"disc 20 0;closed\"", "parse(15) = 6", "append \"disc 9 0;x\"", "parse(0) = 1",
                "errorPosition() = 0");
        Sentence.of("Promise 3", "On success the described disc replaces the current one.")
            .on("disc 20 4;file a;bad 0;write a 3 1;close;write a 1 2;", "scratch({1 9 17})", "setScan(true)",
                "parse \"disc 16 2;file b;file a;bad 4;write a 1 7;\" = 0", "size(*) = 16 2 2 1 1 2 1 1 1 1 0 0 1",
                "find \"a\" = 1", "find \"b\" = 0", "session(0, *) = 0 0 1 1 -1 0 -1 1 0",
                "session(1, 0) throws IndexOutOfBounds",
                "block(*, 0) = 1 0 0 0 0 0 0 0 0 0 0 0 0 0 0 0", "block(*, 1) = 0 0 0 0 1 0 0 0 0 0 0 0 0 0 0 0",
                "block(*, 2) = 0 0 0 0 0 0 0 0 0 0 0 0 0 0 0 0", "file(*, 2) = -1 0", "file(1, *) = 1 1 0 1 7 0 1")
            // Nothing of a disc that was replaced comes back with a later one.
            .on("disc 12 4;file a;file b;write a 2 1;close;write b 1 2;", "scratch({0 5 9})", "setScan(true)",
                "parse \"disc 12 4;file c;bad 0;write c 3 1;close;\" = 0", "scratch({1 2 6 9})", "setScan(true)",
                "parse \"disc 12 4;file a;bad 11;\" = 0", "size(*) = 12 4 1 0 0 4 1 0 0 0 0 0 0",
                "block(*, 0) = 0 0 0 0 0 0 0 0 0 0 0 0", "block(*, 1) = 0 0 0 0 0 0 0 0 0 0 0 1",
                "block(*, 2) = 0 0 0 0 0 0 0 0 0 0 0 0", "block(*, 3) = -1 -1 -1 -1 -1 -1 -1 -1 -1 -1 -1 -1",
                "block(*, 4) = -1 -1 -1 -1 -1 -1 -1 -1 -1 -1 -1 -1", "block(*, 5) = -1 -1 -1 -1 -1 -1 -1 -1 -1 -1 -1 -1",
                "block(*, 6) = -1 -1 -1 -1 -1 -1 -1 -1 -1 -1 -1 -1", "place(*) = -1 -1 -1 -1 -1 -1 -1 -1 -1 -1 -1 -1",
                "find \"c\" = -1", "write(0, 1, 5) = 0", "file(0, *) = 1 1 0 1 5 0 1",
                "session(0, *) = 0 0 1 1 -1 0 -1 1 0");
        Sentence.of("Promise 3", "On a parse error nothing changes except that the whole buffer is emptied; it is also empty "
            + "after a success.")
            .on("disc 20 2;file a;write a 1 1;close;", "write(0, 2, 2)", "setScan(true)", "saveSnapshot(1)",
                "size(*) = 20 2 1 2 4 2 0 1 1 1 1 2 2", "parse \"disc 30 3;file b;bad 0;file c;close;\" = 6 30",
                "parse({1 20}) throws IllegalArgument", "size(*) = 20 2 1 2 4 2 0 1 1 1 1 2 2", "block(0, {0 1}) = 1 0",
                "find \"a\" = 0", "find \"b\" = -1", "file(0, *) = 1 1 1 2 2 1 2", "session(*, 0) = 1 0", "undo() = 1",
                "restoreSnapshot(1) = 2")
            .on("disc 20 2;file a;", "append(0, 0, 0, 0, 0) = 20", "parse(0) = 1", "append(0, 0, 0, 0, 0) = 20",
                "find() = -1",
                "append \"disc 9 0;disc 8\"", "parse(9) = 0", "parse(1) throws IllegalArgument",
                "append(0, 0, 0, 0, 0) = 20");
        Sentence.of("Promise 3", "- `length`: 0 to the length of the buffer")
            .on("", "parse(0) = 1", "append \"disc 8 0;\"", "parse(20) = 0", "append \"disc 9 0;\"",
                "append(0x20202020, 0x20202020, 0x20202020, 0x20202020, 0x20202020) = 40", "parse(40) = 0", "size(0) = 9");
        Sentence.of("Promise 3", "Returns 0 on success; the code of the parse error.")
            .on("", "parse \"disc 8 0;\" = 0", "parse \"disc 8 0\" = 1 8", "parse \"disc 8 0;bad 1;bad 1;\" = 2 19",
                "parse \"disc 8 0;bad 9;\" = 3 13", "parse \"disc 8 0;erase a;\" = 4 15",
                "parse \"disc 8 0;file a;file b;file c;file d;file e;file f;file g;file h;file i;file j;file k;\" = 5 79",
                "parse \"disc 8 0;close;\" = 6 9", "parse \"disc 8 0;\" = 0");
        Sentence.of("Promise 3", "Throws `IllegalArgumentException` if length is out of range")
            .on("", "parse({-1 1 max min}) throws IllegalArgument", "append \"disc 9 0;\"",
                "parse({-1 21 max min}) throws IllegalArgument", "parse(20) = 0", "size(0) = 9");
    }

    private static void promise4() {
        Sentence.of("Promise 4",
            "Returns the position of the parse error of the last call of parse that did not throw an exception.")
            .on("", "parse \"disc 8 9;\" = 3 7", "parse(1) throws IllegalArgument", "errorPosition() = 7",
                "parse \"disc 8 0;bad 8;\" = 3 13", "scratch(0)", "undo()", "saveSnapshot(0)", "restoreSnapshot(0)",
                "find() = -1", "errorPosition() = 13", "parse(0) = 1", "errorPosition() = 0",
                "parse \"disc 8 0;file a;write a 1 1;close;erase b;\" = 4 40", "errorPosition() = 40");
        Sentence.of("Promise 4", "Returns the position; NONE if that call succeeded or there was none.")
            .on("", "errorPosition() = -1", "parse(1) throws IllegalArgument", "errorPosition() = -1",
                "parse \"disc 8 9;\" = 3 7", "errorPosition() = 7", "parse \"disc 8 0;\" = 0", "errorPosition() = -1");
    }

    private static Sentence size(String words) {
        return Sentence.of("Promise 5", words);
    }

    private static void promise5Counts() {
        size("Returns a count or what is so now.")
            .on("disc 20 4;file ab;bad 1;bad 17;file c;file d;write ab 2 5;close;write c 1 7;",
                "size(*) = 20 4 3 2 4 3 2 2 2 1 0 0 2", "crash()", "size(*) = 20 4 3 2 4 3 2 1 1 0 0 1 2");
        size("- `what`: 0 blocks,").on("", "size(0) = 8", "parse \"disc 96 16;\" = 0", "size(0) = 96");
        size("1 blocks of the spare area,").on("", "size(1) = 0", "parse \"disc 40 16;\" = 0", "size(1) = 16");
        size("2 files,").on("disc 8 0;", "size(2) = 0", "parse \"disc 8 0;file a;file b;\" = 0", "size(2) = 2");
        size("3 sessions,")
            .on("disc 40 0;file a;", "size(3) = 0", "write(0, 1, 1)", "size(3) = 1", "crash()", "recover()", "size(3) = 2",
                "10 times: write(0, 1, 1); close()", "size(3) = 12");
        size("4 next,").on("disc 8 2;file a;bad 1;", "size(4) = 0", "write(0, 2, 1)", "size(4) = 2", "close()",
                "size(4) = 3",
            "write(0, 2, 1)", "close()", "size(4) = 6");
        size("5 blocks of the spare area that are empty,")
            .on("disc 12 4;file a;bad 0;bad 2;bad 8;", "size(5) = 4", "write(0, 1, 1)", "size(5) = 2", "scratch(10)",
                "size(5) = 2", "scratch(9)", "size(5) = 2", "close()", "write(0, 1, 1)", "size(5) = 0");
        size("6 blocks that are bad (also failed ones),")
            .on("disc 12 4;file a;bad 0;bad 8;", "size(6) = 2", "write(0, 1, 1)", "block({0 8}, 0) = 3 3", "size(6) = 2",
                "scratch(5)", "size(6) = 3", "scratch({0 1 9})", "size(6) = 4");
        size("7 files that are there,")
            .on("disc 20 0;file a;file b;write a 1 1;", "size(7) = 1", "write(1, 1, 1)", "size(7) = 2", "scratch({0 1})",
                "size(7) = 2", "erase(0)", "size(7) = 1", "crash()", "size(7) = 0");
        size("8 files that are there and readable,")
            .on("disc 20 0;file a;file b;write a 1 1;write b 1 1;", "size(8) = 2", "scratch(0)", "size(8) = 1", "erase(1)",
                "size(8) = 0", "write(0, 1, 1)", "size(8) = 1");
    }

    private static void promise5States() {
        size("9 1 if a session is open, otherwise 0,")
            .on("disc 20 0;file a;", "size(9) = 0", "write(0, 1, 1)", "size(9) = 1", "close()", "size(9) = 0", "erase(0)",
                "size(9) = 1", "crash()", "size(9) = 0", "write(0, 1, 1)", "crash()", "recover()", "size(9) = 0");
        size("10 1 with scan, otherwise 0,").on("", "size(10) = 0", "setScan(true)", "size(10) = 1", "setScan(false)",
            "size(10) = 0");
        size("11 changes that can be undone,")
            .on("", "size(11) = 0", "9 times: setScan(true)", "size(11) = 9", "2 times: scratch(0)", "size(11) = 10",
                "undo() = 9", "size(11) = 9", "saveSnapshot(0)", "size(11) = 9", "restoreSnapshot(0)", "size(11) = 0");
        size("12 versions")
            .on("disc 20 0;file a;write a 1 1;", "size(12) = 1", "erase(0)", "size(12) = 1", "write(0, 2, 1)",
                "size(12) = 2",
                "crash()", "size(12) = 2", "recover()", "size(12) = 2", "undo()", "undo()", "undo()", "size(12) = 1");
        size("Throws `IllegalArgumentException` if what is out of range")
            .on("", "size({-1 13 max min}) throws IllegalArgument", "size({0 12}) = 8 0");
    }

    private static void promise6() {
        Sentence.of("Promise 6", "Finds the file whose name the input buffer contains; bytes 32 may stand behind it (with "
            + "anything else in the buffer there is none).")
            .on("disc 8 0;file ab;file abcdefgh;file a;file z;",
                "find \"ab\" = 0", "find \"abcdefgh\" = 1", "find \"a\" = 2", "find \"z" + " ".repeat(599) + "\" = 3",
                "find \" ab\" = -1", "find \" z\" = -1",
                // To the base 27, in 64 bits, this is "a" once more.
                "find \"dnxhqojvfouuvz\" = -1", "find \"ab ab\" = -1", "find \"ab\n\" = -1", "find \"ab;\" = -1", "find \"ab7\" = -1",
                "find \"7ab\" = -1", "find \"aB\" = -1", "find \"ab                       x\" = -1", "find \"a b\" = -1",
                "find \"ab\u0000\" = -1", "find \"abcdefghi\" = -1", "find \"abcdefgh i\" = -1",
                "find \"z" + " ".repeat(598) + "z\" = -1");
        Sentence.of("Promise 6", "The buffer is empty afterwards.")
            .on("disc 8 0;file ab;", "find \"ab\" = 0", "parse(1) throws IllegalArgument", "find \"b\" = -1",
                "parse(1) throws IllegalArgument", "append(0, 0, 0, 0, 0) = 20", "find() = -1",
                "append(0, 0, 0, 0, 0) = 20",
                "find() = -1", "find \"ab\" = 0", "find() = -1");
        Sentence.of("Promise 6", "Returns the file; NONE if there is none.")
            .on("disc 8 0;file ab;file c;", "find \"ab\" = 0", "find \"c\" = 1", "find \"b\" = -1", "find \"abc\" = -1",
                "find \"a\" = -1", "find() = -1", "find \" \" = -1", "parse \"disc 8 0;file c;\" = 0", "find \"ab\" = -1",
                "find \"c\" = 0")
            .on("", "find \"a\" = -1");
    }
}
