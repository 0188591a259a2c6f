import java.io.IOException;

/** Each sentence of the document's "Terms". */
public final class TermsSentenceTest {
    private static final String TEN =
        "disc 8 0;file a;file b;file c;file d;file e;file f;file g;file h;file i;file j;";
    private static final String FIVE = "file a;file b;file c;file d;file e;";

    public static void main(String[] args) throws IOException {
        numbers();
        tokens();
        grammar();
        ranges();
        statements();
        codes();
        order();
        blocks();
        relocation();
        sessions();
        directories();
        crashes();
        filesThere();
        reasons();
        refusals();
        changes();
        exceptions();
        Sentence.end();
    }

    private static Sentence of(String words) {
        return Sentence.of("Terms", words);
    }

    private static void numbers() {
        of("All numbers are integers if nothing else is said; all divisions truncate.")
            .on("", "parse \"disc 9 4;\" = 0", "parse \"disc 9 5;\" = 3 7")
            .on("disc 40 0;" + FIVE + "file f;file g;file h;", "write(0, 1, 1)", "write({1 2 3 4 5 6}, 1, 1)",
                "close() = 0", "size(4) = 9", "write({0 1 2 3 4 5 6 7}, 1, 1)", "close() = 1", "size(4) = 19");
        of("Blocks, files, sessions and entries are numbered from 0.")
            .on("disc 8 0;file a;write a 1 5;close;", "block(0, 0) = 1", "find \"a\" = 0", "session(0, 0) = 1",
                "entry(0, 0, 0) = 0", "block({-1 8}, 0) throws IndexOutOfBounds", "file({-1 1}, 0) throws IndexOutOfBounds",
                "session({-1 1}, 0) throws IndexOutOfBounds", "entry(0, {-1 1}, 0) = -1 -1");
    }

    private static void tokens() {
        of("TEXT. A disc is described by a text of at most 600 bytes.")
            .on("", "parse \"disc 9 0;" + " ".repeat(585) + "bad 8;\" = 0", "size({0 6}) = 9 1")
            .on("", "append \"disc 9 0;\"", "29 times: append(0x20202020, 0x20202020, 0x20202020, 0x20202020, 0x20202020)",
                "append(0, 0, 0, 0, 0) = -1", "parse(601) throws IllegalArgument", "parse(600) = 0", "size(0) = 9");
        of("Spaces (byte 32) and line feeds (byte 10) separate tokens and are otherwise ignored.")
            .on("", "parse \"\n  disc\n8  \n 0 ;\n\nfile\na ; \n\" = 0", "find \"a\" = 0",
                "parse \"disc 1 0 0;\" = 3 5", "parse \"disc 9\n6 0;\" = 3 7", "parse \"disc 8 0;fi le a;\" = 1 9",
                "parse \"disc 8 0;file a\nb;\" = 1 16", "parse \"disc 8 0;file a b;\" = 1 16");
        of("A token is a word (a maximal run of letters a to z, 1 to 8 letters), a number (a maximal run of digits, "
            + "1 to 3 digits) or a semicolon.")
            .on("", "parse \"disc8 0;bad7;file a;write a1 0;erase a;close;\" = 0", "size({3 6 12}) = 1 1 1")
            .on("", "parse \"disc 8 0;file abcdefgh;file z;\" = 0", "find \"abcdefgh\" = 0", "find \"z\" = 1",
                "parse \"disc 8 0;filea;\" = 1 9", "parse \"disc 96 0;file a;write a 1 123;\" = 0", "file(0, 4) = 123",
                "parse \"disc 008 00;\" = 0", "size(0) = 8", "parse \"disc 8 0;;\" = 1 9");
        Sentence longer = of("A longer run, and any other byte, is an invalid token.")
            .on("", "parse \"disc 8 0;file abcdefghi;\" = 1 14", "parse \"disc 0008 0;\" = 1 5",
                "parse \"disc 8 0000;\" = 1 7", "parse \"disc 16 0;file a;write a 1 0001;\" = 1 27",
                "parse \"disccccccccccccccccc 8 0;\" = 1 0",
                "parse \"disc 8 00000000000000000000000000000000000000;\" = 1 7");
        for (char sign = 0; sign < 256; sign++) {
            boolean known = sign >= 'a' && sign <= 'z' || sign >= '0' && sign <= '9' || " \n;\"".indexOf(sign) >= 0;
            if (!known) {
                longer.on("", "parse \"disc 8 0;" + sign + "\" = 1 9", "parse \"disc 8" + sign + " 0;\" = 1 6",
                    "parse \"disc 8 0;file a" + sign + ";\" = 1 15");
            }
        }
    }

    private static void grammar() {
        String start = "parse \"disc 8 0;file a;";
        of("disc = \"disc\" blocks spare \";\" { statement \";\" } statement = \"bad\" block | \"file\" name | "
            + "\"write\" file length tag | \"erase\" file | \"close\"")
            .on("", "parse \"disc 8 0;\" = 0", "parse \"disc 8 0;bad 7;file a;write a 1 2;erase a;close;bad 3;\" = 0",
                "parse(0) = 1", "errorPosition() = 0", "parse \"disc\" = 1 4", "parse \"disc 8\" = 1 6",
                "parse \"disc 8 0\" = 1 8", "parse \"8 0;\" = 1 0", "parse \"disk 8 0;\" = 1 0", "parse \"bad 7;\" = 1 0",
                "parse \"; disc 8 0;\" = 1 0", "parse \"disc ; 0;\" = 1 5", "parse \"disc x 0;\" = 1 5",
                "parse \"disc 8;\" = 1 6", "parse \"disc 8 x;\" = 1 7", "parse \"disc 8 0 0;\" = 1 9",
                "parse \"disc 8 0 bad 7;\" = 1 9", "parse \"disc 8 0;disc 8 0;\" = 1 9", "parse \"disc 8 0;7;\" = 1 9",
                "parse \"disc 8 0;;\" = 1 9", "parse \"disc 8 0;bat 7;\" = 1 9")
            .on("", "parse \"disc 8 0;bad\" = 1 12", "parse \"disc 8 0;bad;\" = 1 12", "parse \"disc 8 0;bad x;\" = 1 13",
                "parse \"disc 8 0;bad 1\" = 1 14", "parse \"disc 8 0;bad 1 2;\" = 1 15", "parse \"disc 8 0;file\" = 1 13",
                "parse \"disc 8 0;file;\" = 1 13", "parse \"disc 8 0;file 1;\" = 1 14", start + "\" = 0",
                "parse \"disc 8 0;file a\" = 1 15", "parse \"disc 8 0;file a bad 1;\" = 1 16")
            .on("", start + "write\" = 1 21", start + "write;\" = 1 21", start + "write 1 1 1;\" = 1 22",
                start + "write a\" = 1 23", start + "write a;\" = 1 23", start + "write a b 1;\" = 1 24",
                start + "write a 1\" = 1 25", start + "write a 1;\" = 1 25", start + "write a 1 b;\" = 1 26",
                start + "write a 1 1\" = 1 27", start + "write a 1 1 1;\" = 1 28")
            .on("", start + "erase\" = 1 21", start + "erase;\" = 1 21", start + "erase 1;\" = 1 22",
                start + "write a 1 1;erase a\" = 1 35", start + "write a 1 1;erase a 1;\" = 1 36",
                start + "write a 1 1;close\" = 1 33", start + "write a 1 1;close a;\" = 1 34");
        of("name is any word, file a word that is the name of an earlier file; all other items that are not quoted "
            + "are numbers.")
            .on("disc 16 0;file disc;file bad;file file;file write;file erase;file close;write write 1 1;"
                + "write close 1 2;erase write;close;", "find \"disc\" = 0", "find \"bad\" = 1", "find \"file\" = 2",
                "find \"write\" = 3", "find \"erase\" = 4", "find \"close\" = 5", "file(*, 0) = 0 0 0 0 0 1")
            .on("", "parse \"disc 8 0;write a 1 1;file a;\" = 4 15",
                "parse \"disc 8 0;file b;write a 1 1;file a;\" = 4 22");
    }

    private static void ranges() {
        of("blocks is 8 to 96,").on("", "parse \"disc 8 0;\" = 0", "size(0) = 8", "parse \"disc 96 0;\" = 0",
                "size(0) = 96",
            "parse \"disc 7 0;\" = 3 5", "parse \"disc 97 0;\" = 3 5", "parse \"disc 0 0;\" = 3 5",
            "parse \"disc 999 0;\" = 3 5", "size(0) = 96");
        of("spare 0 to 16 and at most blocks / 2,")
            .on("", "parse \"disc 96 16;\" = 0", "size(1) = 16", "parse \"disc 96 17;\" = 3 8",
                "parse \"disc 96 999;\" = 3 8",
                "parse \"disc 33 16;\" = 0", "parse \"disc 32 16;\" = 0", "parse \"disc 31 16;\" = 3 8",
                "parse \"disc 31 15;\" = 0", "size(1) = 15")
            .on("", "parse \"disc 8 0;\" = 0", "size(1) = 0", "parse \"disc 8 4;\" = 0", "size(1) = 4",
                "parse \"disc 8 5;\" = 3 7", "parse \"disc 9 4;\" = 0", "parse \"disc 9 5;\" = 3 7",
                "parse \"disc 10 5;\" = 0", "size(1) = 5", "parse \"disc 10 6;\" = 3 8");
        StringBuilder all = new StringBuilder();
        for (int block = 0; block < 96; block++) {
            all.append("bad").append(block).append(';');
        }
        of("block 0 to blocks - 1,")
            .on("disc96 16;" + all, "size({5 6}) = 16 96", "block({0 79 80 95}, 1) = 1 1 1 1")
            .on("disc 8 0;bad 0;bad 7;", "block(*, 1) = 1 0 0 0 0 0 0 1")
            .on("disc 8 4;bad 4;bad 7;", "block(*, 1) = 0 0 0 0 1 0 0 1")
            .on("", "parse \"disc 8 0;bad 8;\" = 3 13", "parse \"disc 8 4;bad 8;\" = 3 13",
                "parse \"disc 8 0;bad 999;\" = 3 13",
                "parse \"disc 96 0;bad 95;\" = 0", "parse \"disc 96 0;bad 96;\" = 3 14");
        of("length 1 to 8,")
            .on("disc 16 0;file a;write a 1 0;", "file(0, 3) = 1", "parse \"disc 16 0;file a;write a 8 0;\" = 0",
                "file(0, 3) = 8", "parse \"disc 16 0;file a;write a 0 0;\" = 3 25",
                "parse \"disc 16 0;file a;write a 9 0;\" = 3 25", "parse \"disc 16 0;file a;write a 999 0;\" = 3 25");
        of("tag 0 to 999.")
            .on("disc 16 0;file a;write a 1 0;", "file(0, 4) = 0", "parse \"disc 16 0;file a;write a 1 999;\" = 0",
                "file(0, 4) = 999", "parse \"disc 16 0;file a;write a 1 1000;\" = 1 27");
        of("There are at most 10 files.")
            .on(TEN, "size(2) = 10", "find \"j\" = 9", "file(9, 0) = 0", "file(10, 0) throws IndexOutOfBounds",
                "parse \"" + TEN + "file k;\" = 5 79");
    }

    private static void statements() {
        of("\"bad\" tells a block that is bad from then on (what it holds already stays as it is, and readable);")
            .on("disc 12 2;file a;write a 2 1;bad 0;bad 3;write a 2 2;", "block(0, *) = 1 1 0 0 0 0 -1", "place(0) = 0",
                "block(3, *) = 3 1 0 0 -1 -1 -1", "place(3) = 10")
            .on("disc 12 2;file a;write a 2 1;bad 0;bad 1;", "file(0, *) = 1 1 0 2 1 0 1", "block({0 1}, 2) = 0 0")
            .on("disc 12 2;file a;bad 0;write a 1 1;close;bad 1;bad 10;", "session(0, 5) = 1", "file(0, 1) = 1",
                "block(10, *) = 1 1 0 0 0 0 0", "block(1, *) = 2 1 0 0 -1 0 -1");
        of("\"write\", \"erase\" and \"close\" are done at that point of the text, as by the methods.")
            .on("disc 20 2;file a;file b;bad 1;write a 2 5;erase a;write b 1 6;close;",
                "size(*) = 20 2 2 1 4 1 1 1 1 0 0 0 2", "entry(0, 0, *) = 0 -1 -1 0 -1", "entry(0, 1, *) = 1 1 2 1 6",
                "session(0, *) = 1 0 4 2 3 1 -1 1 1", "place(1) = 18")
            .on("disc 20 2;file a;write a 2 5;bad 0;close;bad 3;write a 1 6;", "place({0 1 2 3}) = 0 1 2 18");
    }

    private static void codes() {
        of("Parse errors have these codes. 1: an invalid token, a token that the grammar does not allow at this place, "
            + "or a text that ends too early.")
            .on("", "parse \"disc 8 0;?\" = 1 9", "parse \"disc 8 0;file a 7;\" = 1 16", "parse \"disc 8 0;bad\" = 1 12",
                "parse(0) = 1", "errorPosition() = 0");
        of("2: a name that an earlier file has; a block that is bad already.")
            .on("", "parse \"disc 8 0;file a;file b;file a;\" = 2 28",
                "parse \"disc 8 0;file ab;file a;file b;file ba;\" = 0",
                "parse \"disc 8 0;bad 1;bad 2;bad 1;\" = 2 25", "parse \"disc 8 0;bad 1;bad 001;\" = 2 19",
                "parse \"disc 8 2;bad 0;file a;write a 1 1;bad 0;\" = 2 38",
                "parse \"disc 8 2;bad 0;bad 6;file a;write a 1 1;bad 6;\" = 2 44",
                "parse \"disc 8 0;file a;write a 1 1;bad 0;bad 0;\" = 2 38")
            // What was bad in an earlier text is forgotten.
            .on("disc 8 0;bad 1;", "parse \"disc 8 0;bad 1;\" = 0", "parse \"disc 8 0;bad 2;bad 2;\" = 2 19",
                "parse \"disc 8 0;bad 2;\" = 0");
        of("3: a number out of its range.")
            .on("", "parse \"disc 7 0;\" = 3 5", "parse \"disc 8 5;\" = 3 7", "parse \"disc 8 0;bad 8;\" = 3 13",
                "parse \"disc 8 0;file a;write a 0 1;\" = 3 24", "parse \"disc 8 0;file a;write a 9 1;\" = 3 24");
        of("4: a file that is no earlier one.")
            .on("", "parse \"disc 8 0;write a 1 1;\" = 4 15", "parse \"disc 8 0;erase a;\" = 4 15",
                "parse \"disc 8 0;file a;erase b;\" = 4 22", "parse \"disc 8 0;file ab;write a 1 1;\" = 4 23",
                "parse \"disc 8 0;file a;write ab 1 1;\" = 4 22", "parse \"disc 8 0;write a 1 1;file a;\" = 4 15")
            // The names of an earlier text are forgotten.
            .on("disc 8 0;file a;file b;", "parse \"disc 8 0;file b;write a 1 1;\" = 4 22",
                "parse \"disc 8 0;erase b;\" = 4 15");
        of("5: the first word of the statement of an eleventh file.")
            .on("", "parse \"" + TEN + "file k;\" = 5 79", "parse \"" + TEN + "file a;\" = 5 79",
                "parse \"" + TEN + "bad 1; file k;\" = 5 86", "parse \"" + TEN + "filed k;\" = 1 79");
        of("6: the first word of a \"write\", \"erase\" or \"close\" statement that is refused.")
            .on("", "parse \"disc 8 0;close;\" = 6 9", "parse \"disc 8 0;file a;erase a;\" = 6 16",
                "parse \"disc 8 0;file a;write a 7 5;\" = 0", "parse \"disc 8 0;file a;write a 8 5;\" = 6 16",
                "parse \"disc 8 0;file a;write a 1 1;close;close;\" = 6 34",
                "parse \"disc 8 0;file a;write a 1 1;erase a; erase  a;\" = 6 37",
                "parse \"disc 8 0;bad 0;file a;write a 1 1;\" = 6 22",
                "parse \"disc 8 0;file a;write a 1 1;bad 1;close;\" = 6 34");
    }

    private static void order() {
        String start = "parse \"disc 8 0;file a;";
        of("(It is refused when the whole statement, without the semicolon, is read; an error of one of its tokens "
            + "counts first.)")
            .on("", "parse \"disc 8 0;close\" = 6 9", "parse \"disc 8 0;close 5\" = 6 9", start + "erase a\" = 6 16",
                start + "erase a a\" = 6 16", start + "write a 8 5\" = 6 16", start + "write a 8 5 5;\" = 6 16",
                start + "write a 8 5?\" = 6 16")
            .on("", start + "write a 8;\" = 1 25", start + "write a 8\" = 1 25", start + "write a 8 x;\" = 1 26",
                start + "write a 8 1000;\" = 1 26", start + "write b 8 5;\" = 4 22", start + "write a 9 5;\" = 3 24",
                start + "erase\" = 1 21", start + "erase b;\" = 4 22", start + "erase 7;\" = 1 22");
        of("The error with the smallest position is reported otherwise.")
            .on("", "parse \"disc 7 99\" = 3 5", "parse \"disc 8 0;bad 8 8 8;x\" = 3 13",
                "parse \"disc 8 0;bad 1;bad 1;file;\" = 2 19", start + "file a;bad 9;\" = 2 21",
                start + "write b 9 x\" = 4 22", "parse \"" + TEN + "file 7;\" = 5 79", "parse \"" + TEN + "file\" = 5 79",
                start + "write a 1 1;close;close;bad 99;?\" = 6 34", start + "close;erase a;write a 8 1;\" = 6 16");
        of("If several codes apply at one position, the smallest is reported.")
            .on("", "parse \"disc 1000 0;\" = 1 5", "parse \"disc 8 0;bad 1000;\" = 1 13",
                "parse \"disc 8 0;write abcdefghi 1 1;\" = 1 15", "parse \"disc 8 0;erase abcdefghi;\" = 1 15",
                "parse \"disc 8 0;file abcdefgh;file abcdefghi;\" = 1 28",
                "parse \"disc 8 0;file abcdefgh;erase abcdefghi;\" = 1 29", "parse \"disc 8 0;bad 1;bad 0001;\" = 1 19");
        of("The position of an error is the index of the first byte of its token; if the text ends too early, it is "
            + "the length of the text.")
            .on("", "parse \"disc    1000 0;\" = 1 8", "parse \"disc 8 0;\n\n  bad   8;\" = 3 19",
                start + "file   a\" = 2 23", "parse \"disc 8 0;bad   \" = 1 15", "parse \"disc 8 0;file a\n\" = 1 16",
                "append \"disc 8 0;\"", "parse(7) = 1", "errorPosition() = 7");
    }

    private static void blocks() {
        of("BLOCKS. The last spare blocks are the spare area, all others the main area.")
            .on("disc 12 4;file a;bad 0;write a 7 1;", "place(*) = 8 1 2 3 4 5 6 -1 -1 -1 -1 -1", "whyNotWrite(0, 1) = 4",
                "close() = 0", "size({4 5}) = 8 3", "write(0, 1, 1) throws IllegalState")
            .on("disc 8 0;file a;write a 7 1;close;", "size({1 4 5}) = 0 8 0", "place(*) = 0 1 2 3 4 5 6 7");
        of("A block is empty, data, a part of a directory, or failed.")
            .on("disc 12 4;file a;bad 1;write a 2 1;close;", "block(*, 0) = 1 3 2 0 0 0 0 0 1 0 0 0",
                "space(*) = 8 2 0 1 1");
        of("Only an empty block can be written.")
            .on("disc 12 2;file a;bad 0;bad 3;", "write(0, 2, 1) = 0", "crash() = 2", "write(0, 2, 2) = 1", "close() = 1",
                "block(*, 4) = -1 0 1 -1 -1 -1 -1 -1 -1 -1 0 1", "block(*, 3) = 0 0 1 1 1 -1 -1 -1 -1 -1 0 1",
                "place({0 3}) = 10 11");
        of("The main area is written from the block 0 on, one block behind the other; next is the first block of it "
            + "that has not been written.")
            .on("disc 12 4;file a;", "size(4) = 0", "write(0, 3, 1) = 0", "size(4) = 3",
                "place(*) = 0 1 2 -1 -1 -1 -1 -1 -1 -1 -1 -1", "close() = 0", "size(4) = 4", "erase(0) = 0", "size(4) = 4",
                "write(0, 2, 2) = 1", "size(4) = 6", "entry(1, 0, 2) = 4", "close() = 1", "size(4) = 7", "erase(0) = 0",
                "close() = 2", "size(4) = 8")
            // A block that failed has been written, too.
            .on("disc 12 4;file a;bad 0;write a 1 1;", "size(4) = 1", "crash() = 1", "size(4) = 1");
    }

    private static void relocation() {
        of("To write a block (always at next): if it is not bad, it holds what is written.")
            .on("disc 12 2;file a;bad 2;", "write(0, 2, 1) = 0", "block(0, *) = 1 0 0 0 0 0 -1",
                "block(1, *) = 1 0 0 0 0 1 -1", "size(5) = 2", "place({0 1}) = 0 1");
        of("If it is bad, it is failed, and the block is relocated: the first block of the spare area that is empty is "
            + "written instead, if it is not bad; if it is bad, it is failed, too, and the next one is tried, and so on.")
            .on("disc 16 6;file a;bad 1;bad 2;bad 10;bad 12;bad 13;write a 4 7;",
                "block(*, 0) = 1 3 3 1 0 0 0 0 0 0 3 1 3 3 1 0", "place({0 1 2 3}) = 0 11 14 3",
                "block(11, *) = 1 0 0 0 0 1 1", "block(14, *) = 1 0 0 0 0 2 2", "block({10 12 13}, 6) = -1 -1 -1",
                "block({1 2 10 12 13}, 1) = 1 1 1 1 1", "size(5) = 1", "session(0, {2 8}) = 4 5")
            // A bad spare block is left alone while nothing is relocated.
            .on("disc 16 6;file a;bad 10;write a 4 7;close;", "block(10, *) = 0 1 0 -1 -1 -1 -1", "size(5) = 6")
            // A part of a directory is relocated in the same way.
            .on("disc 16 6;file a;bad 1;bad 10;write a 1 7;close;", "block({1 10 11}, 0) = 3 3 2", "block(11, 6) = 1");
        of("The place of a block is where what was written for it is: itself or its spare block.")
            .on("disc 12 2;file a;bad 1;write a 2 5;bad 2;close;", "place(*) = 0 10 11 -1 -1 -1 -1 -1 -1 -1 -1 -1",
                "where(0, *) = 0 10");
        of("A scratch makes a block bad if it is empty, otherwise unreadable (whether it is bad or not).")
            .on("disc 12 3;file a;bad 1;write a 2 5;bad 0;close;bad 4;", "scratch(3) = true",
                "block(3, *) = 0 1 0 -1 -1 -1 -1", "scratch(4) = false", "block(4, *) = 0 1 0 -1 -1 -1 -1",
                "scratch(0) = true", "block(0, *) = 1 1 1 0 0 0 -1", "scratch(1) = true", "block(1, *) = 3 1 1 0 -1 -1 -1",
                "scratch(9) = true", "block(9, *) = 1 0 1 0 0 1 1", "scratch(2) = true", "block(2, *) = 2 0 1 0 -1 0 -1");
        of("Each block of data holds the file, the version and its number among the blocks of this version; versions "
            + "are numbered from 0, in the order in which they are written, over the whole disc.")
            .on("disc 20 2;file a;file b;bad 1;", "write(1, 3, 1) = 0", "write(0, 2, 2) = 1", "crash() = 5",
                "write(1, 1, 3) = 2", "close() = 1", "write(0, 1, 4) = 3", "block(*, 4) = 0 -1 0 1 1 2 -1 3",
                "block(*, 5) = 0 -1 2 0 1 0 0 0", "block(18, *) = 1 0 0 0 0 1 1", "undo() = 5", "write(0, 1, 9) = 3");
        of("Each spare block holds the number of the block instead of which it was written.")
            .on("disc 20 4;file a;bad 1;bad 3;bad 17;write a 4 1;", "block({16 17 18 19}, 6) = 1 -1 3 -1",
                "block(*, 6) = -1 -1 -1 -1 -1");
    }

    private static void sessions() {
        of("SESSIONS. A session begins when something is written or erased and no session is open.")
            .on("disc 20 2;file a;", "size({3 9}) = 0 0", "write(0, 1, 1) = 0", "size({3 9}) = 1 1", "write(0, 1, 2) = 1",
                "size({3 9}) = 1 1", "close() = 0", "size({3 9}) = 1 0", "erase(0) = 0", "size({3 9}) = 2 1",
                "session(1, {0 1}) = 0 3", "write(0, 1, 3) = 2", "size(3) = 2", "crash() = 1", "scratch(5) = true",
                "setScan(true) = false", "size({3 9}) = 2 0", "write(0, 1, 1) = 3", "size({3 9}) = 3 1");
        of("It has entries, in the order in which their files came into it: for each file one entry, which is a version "
            + "(its first block, length and tag) or tells that the file is erased.")
            .on("disc 30 2;file a;file b;file c;write c 1 1;close;", "write(1, 2, 50) = 1", "erase(2) = 1",
                "write(0, 3, 60) = 2", "session(1, 3) = 3", "entry(1, 0, *) = 1 1 2 2 50", "entry(1, 1, *) = 2 -1 -1 0 -1",
                "entry(1, 2, *) = 0 2 4 3 60", "entry(1, 3, *) = -1 -1 -1 -1 -1", "close() = 1",
                "entry(1, {0 1 2 3}, 0) = 1 2 0 -1");
        of("If a file comes into it again, its entry becomes the new one, in the same place.")
            .on("disc 30 2;file a;file b;", "write(0, 1, 1) = 0", "write(1, 1, 2) = 1", "write(0, 2, 3) = 2",
                "entry(0, 0, *) = 0 2 2 2 3", "entry(0, 1, *) = 1 1 1 1 2", "erase(0) = 1", "entry(0, 0, *) = 0 -1 -1 0 -1",
                "session(0, 3) = 2", "write(0, 1, 9) = 3", "entry(0, 0, *) = 0 3 4 1 9", "session(0, 3) = 2");
    }

    private static void directories() {
        Sentence length = of("To close a session means to write its directory: 1 + (entries - 1) / 4 blocks, at next.");
        int[] due = {1, 1, 1, 1, 2, 2, 2, 2, 3, 3};
        for (int entries = 1; entries <= 10; entries++) {
            int next = entries + due[entries - 1];
            length.on(TEN.replace("disc 8 0;", "disc 30 0;"), entries + " times: write(0, 1, 1)", "undo()",
                "write({" + "0 1 2 3 4 5 6 7 8 9".substring(0, 2 * entries - 1) + "}, 1, 1)", "close() = 0",
                "session(0, {3 4}) = " + entries + " " + (2 * entries - 1), "size(4) = " + (next + entries - 1),
                "space(3) = " + due[entries - 1], "block(" + (next + entries - 2) + ", {0 5}) = 2 " + (due[entries - 1] - 1));
        }
        of("It tells the entries, and is linked to the session that was closed before it.")
            .on("disc 40 2;file a;", "write(0, 1, 1)", "close() = 0", "write(0, 1, 1)", "crash()", "write(0, 1, 1)",
                "close() = 2", "write(0, 1, 1)", "crash()", "recover() = 1", "session(*, 6) = -1 -1 0 -1 2",
                "session(*, 3) = 1 0 1 0 1", "write(0, 1, 1)", "session(5, 6) = -1", "close() = 5", "session(5, 6) = 4")
            // Whether the directory before it can be read does not matter.
            .on("disc 40 2;file a;write a 1 1;close;write a 1 2;close;", "scratch(3)", "write(0, 1, 3)", "close() = 2",
                "session(*, 6) = -1 0 1");
        of("A directory can be read if the places of all its blocks are readable.")
            .on("disc 30 2;" + FIVE + "write a 1 1;write b 1 1;write c 1 1;write d 1 1;write e 1 1;bad 6;close;",
                "session(0, {4 5}) = 5 1", "scratch({0 6 29 7})", "session(0, 5) = 1", "scratch(28)", "session(0, 5) = 0",
                "undo()", "session(0, 5) = 1", "scratch(5)", "session(0, 5) = 0");
    }

    private static void crashes() {
        of("By a crash an open session is lost: its entries are forgotten; what it wrote stays written.")
            .on("disc 20 2;file a;file b;write b 1 1;close;", "write(0, 3, 1)", "erase(1) = 1", "crash() = 3",
                "session(1, *) = 2 2 3 0 -1 0 -1 0 0", "entry(1, 0, *) = -1 -1 -1 -1 -1", "file(*, 0) = 0 1", "size(4) = 5",
                "block({2 3 4}, 0) = 1 1 1", "block({2 3 4}, 4) = 1 1 1", "size(12) = 2");
        of("To recover a lost session (the latest one) means: of each file, among the versions that it wrote and of "
            + "which the places of all blocks are readable, the latest one is sought; these versions, in the order of "
            + "the versions, are the entries of a new session, which writes nothing but its directory and is closed "
            + "at once.")
            .on("disc 40 2;" + FIVE + "file f;", "write(3, 2, 0)", "write(0, 2, 10)", "write(5, 2, 20)", "write(0, 2, 30)",
                "write(1, 2, 40)", "write(3, 2, 50)", "write(2, 2, 60)", "write(4, 2, 70)", "crash() = 16",
                "scratch({11 14})",
                "recover() = 5", "entry(1, *, 1) = 0 2 3 4 6 -1", "entry(1, *, 0) = 3 5 0 1 2 -1",
                "entry(1, *, 2) = 0 4 6 8 12 -1", "entry(1, *, 4) = 0 20 30 40 60 -1",
                "session(1, *) = 1 16 2 5 16 1 -1 1 0",
                "size({4 9 12}) = 18 0 8")
            .on("disc 20 2;file a;file b;bad 0;bad 1;write a 1 1;write b 1 1;", "crash()", "scratch({0 19})",
                "recover() = 1",
                "entry(1, {0 1}, 0) = 0 -1")
            // What the session erased is not told; what an earlier lost session wrote is not sought.
            .on("disc 20 2;file a;file b;write b 1 1;close;write a 1 1;", "crash() = 1", "write(1, 1, 2)", "erase(1) = 0",
                "crash() = 1", "recover() = 1", "entry(3, *, 1) = 2 -1", "file(*, 2) = -1 2");
        of("The lost session is recovered then.")
            .on("disc 20 2;file a;write a 1 1;", "crash()", "session(0, 0) = 2", "recover() = 1", "session(*, 0) = 3 1",
                "recover() throws IllegalState");
    }

    private static void filesThere() {
        of("THE FILES THAT ARE THERE. Sessions are reached from the latest closed one on, backward: if its directory can "
            + "be read, it is reached, and the search goes on in the same way with the session to which it is linked; "
            + "if not, without scan the search ends there, with scan it goes on with the session closed before.")
            .on("disc 40 0;file a;file b;file c;write a 1 1;close;write b 1 1;close;write c 1 1;close;",
                "session(*, 7) = 1 1 1", "scratch(3)", "session(*, 7) = 0 0 1", "file(*, 0) = 0 0 1", "setScan(true)",
                "session(*, 7) = 1 0 1", "file(*, 0) = 1 0 1", "scratch(5)", "session(*, 7) = 1 0 0", "file(*, 0) = 1 0 0",
                "setScan(false)", "session(*, 7) = 0 0 0", "size(7) = 0", "setScan(true)", "scratch(1)",
                "session(*, 7) = 0 0 0")
            .on("disc 40 0;file a;file b;write a 1 1;close;write b 1 1;", "crash()", "write(1, 1, 2)", "close() = 2",
                "session(*, 7) = 1 0 1", "recover() throws IllegalState", "write(0, 1, 1)", "crash()", "recover() = 1",
                "session(*, 7) = 1 0 1 0 1");
        of("An open session is always reached, as the first one.")
            .on("disc 40 0;file a;write a 1 1;close;", "scratch(1)", "write(0, 1, 2) = 1", "session(*, 7) = 0 1",
                "file(0, {0 2 5}) = 1 1 1", "undo()", "undo()", "erase(0) = 0", "session(*, 7) = 1 1", "file(0, 5) = 1");
        of("The entry of a file that counts is that of the first session that is reached and has one for it; the file is "
            + "there if that entry is a version.")
            .on("disc 40 0;file a;file b;file c;write a 1 1;write b 1 2;write c 1 3;close;write b 1 4;erase c;close;",
                "file(*, 5) = 0 1 1", "file(*, 2) = 0 3 -1", "file(*, 0) = 1 1 0", "setScan(true)", "scratch(5)",
                "file(*, 5) = 0 0 0", "file(*, 2) = 0 1 2", "write(0, 1, 5) = 4", "file(*, 5) = 2 0 0",
                "file(*, 2) = 4 1 2");
        of("It is readable if the places of all its blocks are readable.")
            .on("disc 20 2;file a;bad 1;write a 3 5;", "scratch({1 3 19})", "file(0, {0 1}) = 1 1", "scratch(18)",
                "file(0, {0 1}) = 1 0", "undo()", "file(0, 1) = 1", "scratch(0)", "file(0, 1) = 0", "undo()", "scratch(2)",
                "file(0, {0 1}) = 1 0");
    }

    private static void reasons() {
        String twelve = "12 times: write(0, 1, 1); close()";
        of("REASONS why something is refused, the first that applies:")
            .on("disc 24 0;file a;", twelve, "whyNotWrite(0, 1) = 3", "whyNot(*) = 1 1 2")
            .on("disc 40 0;file a;", twelve, "scratch(24)", "whyNotWrite(0, 1) = 3")
            .on("disc 8 0;file a;bad 0;", "whyNotWrite(0, {7 8}) = 5 4")
            .on("disc 40 0;file a;", "11 times: write(0, 1, 1); close()", "write(0, 1, 1)", "crash()", "scratch(23)",
                "whyNot(2) = 3", "scratch(22)", "whyNot(2) = 2");
        of("1 no session is open (close, crash);")
            .on("disc 20 0;file a;", "whyNot({0 1}) = 1 1", "close() throws IllegalState", "crash() throws IllegalState",
                "write(0, 1, 1)", "whyNot({0 1}) = 0 0", "close()", "whyNot({0 1}) = 1 1", "close() throws IllegalState",
                "crash() throws IllegalState", "erase(0)", "whyNot({0 1}) = 0 0", "crash() = 0", "whyNot({0 1}) = 1 1");
        of("2 there is nothing to do (erase: the file is not there; recover: a session is open, the latest session is "
            + "not a lost one, or no version can be recovered);")
            .on("disc 20 0;file a;file b;write b 1 1;close;", "erase(0) throws IllegalState", "write(0, 1, 1)",
                "whyNot(2) = 2", "recover() throws IllegalState", "erase(0) = 1", "erase(0) throws IllegalState", "crash()",
                "erase(0) throws IllegalState", "whyNot(2) = 0", "recover() = 1", "whyNot(2) = 2",
                "recover() throws IllegalState")
            .on("disc 20 0;file a;write a 2 1;close;", "whyNot(2) = 2", "recover() throws IllegalState", "erase(0) = 0",
                "crash() = 0", "whyNot(2) = 2", "recover() throws IllegalState")
            .on("disc 20 0;file a;write a 2 1;", "crash()", "whyNot(2) = 0", "scratch(1)", "whyNot(2) = 2",
                "recover() throws IllegalState", "undo()", "write(0, 1, 1)", "close()", "whyNot(2) = 2",
                "recover() throws IllegalState")
            .on("", "whyNot(2) = 2", "recover() throws IllegalState");
        of("3 there are 12 sessions already, and one more would begin;")
            .on("disc 40 0;file a;", "11 times: write(0, 1, 1); close()", "size(3) = 11", "whyNotWrite(0, 1) = 0",
                "write(0, 1, 1)", "size(3) = 12", "whyNotWrite(0, 1) = 0", "write(0, 1, 1)", "erase(0)", "write(0, 1, 2)",
                "close() = 11", "whyNotWrite(0, 1) = 3", "write(0, 1, 1) throws IllegalState",
                "erase(0) throws IllegalState")
            .on("disc 40 0;file a;", "11 times: write(0, 1, 1); crash()", "whyNot(2) = 0", "recover() = 1", "size(3) = 12",
                "whyNotWrite(0, 1) = 3")
            .on("disc 40 0;file a;", "12 times: write(0, 1, 1); crash()", "whyNot(2) = 3", "recover() throws IllegalState",
                "whyNotWrite(0, 1) = 3");
    }

    private static void refusals() {
        of("4 the main area has not room for what is written and for the directory that the session would need then;")
            .on("disc 8 0;file a;", "whyNotWrite(0, {7 8}) = 0 4", "write(0, 8, 1) throws IllegalState",
                "write(0, 7, 1) = 0",
                "close() = 0", "whyNotWrite(0, 1) = 4", "erase(0) throws IllegalState")
            .on("disc 8 4;file a;", "whyNotWrite(0, {3 4}) = 0 4")
            .on("disc 8 0;file a;write a 6 1;close;", "whyNotWrite(0, 1) = 4", "erase(0) = 0", "close() = 1",
                "size(4) = 8")
            .on("disc 12 0;" + FIVE + "write a 1 1;write b 1 1;write c 1 1;", "whyNotWrite(3, 8) = 0",
                "write(3, 1, 1)", "whyNotWrite(4, {6 7}) = 0 4", "whyNotWrite(3, {7 8}) = 0 4")
            // A session that begins with it has one entry, whatever the one before it has.
            .on("disc 10 0;" + FIVE, "write({0 1 2 3}, 1, 1)", "close()", "whyNotWrite(4, {4 5}) = 0 4",
                "whyNotWrite(0, {4 5}) = 0 4", "write(4, 4, 1)", "close()", "size(4) = 10")
            .on("disc 12 0;" + FIVE + "write e 2 1;close;write a 2 1;write b 2 1;write c 2 1;write d 2 1;",
                "erase(4) throws IllegalState", "erase(3) = 4", "close() = 1");
        of("5 too few blocks of the spare area are empty and not bad for what is written now.")
            .on("disc 12 2;file a;bad 0;bad 2;bad 3;", "whyNotWrite(0, {1 2 3 4}) = 0 0 0 5",
                "write(0, 4, 1) throws IllegalState", "scratch(10)", "whyNotWrite(0, {1 2 3}) = 0 0 5", "scratch(11)",
                "whyNotWrite(0, 1) = 5", "write(0, 1, 1) throws IllegalState", "undo()", "write(0, 2, 1)",
                "whyNotWrite(0, 1) = 5")
            .on("disc 12 0;file a;", "whyNotWrite(0, 8) = 0");
        of("(Write needs length blocks, erase none, close and recover the directory alone.)")
            .on("disc 12 0;file a;bad 2;", "whyNotWrite(0, {2 3}) = 0 5", "write(0, 2, 1)", "whyNot(0) = 5",
                "close() throws IllegalState", "crash() = 2", "whyNot(2) = 5", "recover() throws IllegalState")
            .on("disc 12 0;file a;write a 1 1;close;bad 2;", "erase(0) = 0", "whyNot(0) = 5")
            .on("disc 20 0;" + FIVE, "write({0 1 2 3}, 1, 1)", "scratch(5)", "whyNot(0) = 0", "whyNotWrite(4, {1 2}) = 0 5",
                "undo()", "write(4, 1, 1)", "scratch(6)", "whyNot(0) = 5", "crash()", "whyNot(2) = 5", "scratch(0)",
                "whyNot(2) = 0", "recover() = 4")
            .on("disc 20 2;file a;bad 1;write a 1 1;", "whyNot(0) = 0", "scratch(18)", "whyNot(0) = 0", "scratch(19)",
                "whyNot(0) = 5");
    }

    private static void changes() {
        of("CHANGES. The methods from write to setScan are changes if they throw no exception, also if they alter nothing.")
            .on("disc 20 2;file a;file b;", "write(0, 1, 1)", "size(11) = 1", "erase(0)", "size(11) = 2", "close()",
                "size(11) = 3", "write(0, 1, 1)", "crash()", "size(11) = 5", "recover()", "size(11) = 6",
                "scratch(15) = true",
                "size(11) = 7", "scratch(15) = false", "size(11) = 8", "setScan(false) = false", "size(11) = 9",
                "close() throws IllegalState", "write(0, 9, 1) throws IllegalArgument", "erase(1) throws IllegalState",
                "scratch(20) throws IndexOutOfBounds", "size(11) = 9", "saveSnapshot(0)", "find \"a\" = 0",
                "parse \"disc 1 1;\" = 3 5", "size(11) = 9", "undo() = 8", "block(15, 1) = 1", "undo() = 7",
                "block(15, 1) = 1",
                "undo() = 6", "block(15, 1) = 0");
        of("The latest 10 changes can be undone, the latest first.")
            .on("disc 30 2;file a;", "write(0, 1, 0)", "write(0, 1, {1 2 3 4 5 6 7 8 9})", "size(11) = 10",
                "write(0, 1, 10)",
                "size(11) = 10", "undo() = 9", "file(0, 4) = 9", "undo() = 8", "file(0, 4) = 8", "8 times: undo()",
                "size(11) = 0", "file(0, 4) = 0", "undo() = -1", "file(0, 4) = 0");
        of("There are two snapshot slots, 0 and 1; a snapshot holds everything that changes can change.")
            .on("disc 20 2;file a;bad 0;write a 2 1;close;", "saveSnapshot({-1 2 max min}) throws IndexOutOfBounds",
                "restoreSnapshot({-1 2 max min}) throws IndexOutOfBounds", "scratch({1 10})", "setScan(true)",
                "write(0, 1, 2)",
                "saveSnapshot(0) = false", "close()", "saveSnapshot(1) = false", "erase(0)", "crash()", "setScan(false)",
                "scratch({0 3 2 11})", "write(0, 3, 5)", "restoreSnapshot(0) = 2", "size(*) = 20 2 1 2 4 1 2 1 1 1 1 0 2",
                "session(0, *) = 1 0 3 1 2 1 -1 1 1", "session(1, *) = 0 3 1 1 -1 0 -1 1 0", "entry(1, 0, *) = 0 1 3 1 2",
                "block({0 1 2 3 10 11}, 2) = 0 1 0 0 0 0", "block({4 5 6}, 0) = 0 0 0", "restoreSnapshot(1) = 2",
                "session(1, *) = 1 3 2 1 4 1 0 1 0", "size({4 9 10}) = 5 0 1");
        of("A successful parse clears the undo history and empties both slots.")
            .on("disc 20 2;file a;", "write(0, 1, 1)", "saveSnapshot({0 1})", "parse \"disc 9 9;\" = 3 7", "size(11) = 1",
                "parse \"disc 9 0;\" = 0", "size(11) = 0", "undo() = -1", "restoreSnapshot({0 1}) throws IllegalState",
                "saveSnapshot({0 1}) = false false");
    }

    private static void exceptions() {
        of("A method that throws an exception changes nothing.")
            .on("disc 12 2;file a;file b;bad 3;write a 2 5;close;", "scratch({4 5 0})", "saveSnapshot(1)", "erase(0)",
                "append(1, 2, 3, 4, 5)", "parse({-1 21}) throws IllegalArgument", "size(13) throws IllegalArgument",
                "block(0, 7) throws IllegalArgument", "place(12) throws IndexOutOfBounds",
                "session(2, 0) throws IndexOutOfBounds", "entry(0, 0, 5) throws IllegalArgument",
                "file(0, 7) throws IllegalArgument", "where(2, 0) throws IndexOutOfBounds",
                "whyNotWrite(0, 9) throws IllegalArgument", "whyNot(3) throws IllegalArgument",
                "risk(12) throws IndexOutOfBounds", "filesBefore(2) throws IndexOutOfBounds",
                "space(5) throws IllegalArgument", "spaceOf(0, 0) throws IllegalArgument",
                "write(0, 3, 1) throws IllegalState", "write(0, 1, 1000) throws IllegalArgument",
                "erase(1) throws IllegalState", "recover() throws IllegalState", "scratch(-1) throws IndexOutOfBounds",
                "saveSnapshot(2) throws IndexOutOfBounds", "restoreSnapshot(0) throws IllegalState", "parse(20) = 1",
                "errorPosition() = 0", "undo() = 3", "close() throws IllegalState", "crash() throws IllegalState");
        of("Unless something else is said, a block, file, session or slot that does not exist causes an "
            + "IndexOutOfBoundsException, which is checked before any other exception.")
            .on("disc 12 2;file a;file b;write a 2 5;close;", "block({-1 12 max min}, 7) throws IndexOutOfBounds",
                "place({-1 12 max min}) throws IndexOutOfBounds", "session({-1 1 max min}, 9) throws IndexOutOfBounds",
                "entry({-1 1 max min}, 0, 5) throws IndexOutOfBounds", "file({-1 2 max min}, 7) throws IndexOutOfBounds",
                "where({-1 2 max min}, 0) throws IndexOutOfBounds")
            .on("disc 12 2;file a;file b;write a 2 5;close;", "whyNotWrite({-1 2 max min}, 0) throws IndexOutOfBounds",
                "risk({-1 12 max min}) throws IndexOutOfBounds", "filesBefore({-1 1 max min}) throws IndexOutOfBounds",
                "spaceOf({-1 1 max min}, 0) throws IndexOutOfBounds",
                "write({-1 2 max min}, 0, -1) throws IndexOutOfBounds",
                "erase({-1 2 max min}) throws IndexOutOfBounds", "scratch({-1 12 max min}) throws IndexOutOfBounds",
                "saveSnapshot({-1 2 max min}) throws IndexOutOfBounds",
                "restoreSnapshot({-1 2 max min}) throws IndexOutOfBounds", "entry(0, 1, 0) = -1", "where(0, 2) = -1",
                "defect(0, true) = -1");
    }
}
