/** Promises 1 to 6: a new object, the buffer, texts, counts and names. */
public final class TextTest {
    public static void main(String[] args) {
        promise1();
        promise2();
        promise3();
        promise3Invalid();
        promise3Ranges();
        promise3Names();
        promise3Refused();
        promise3Replaces();
        promise3Again();
        promise4();
        promise5();
        promise6();
        Check.end();
    }

    private static void promise1() {
        OnceDisc disc = new OnceDisc();
        int[] due = {8, 0, 0, 0, 0, 0, 0, 0, 0, 0, 0, 0, 0};
        for (int what = 0; what < due.length; what++) {
            Check.equal("size(" + what + ") of a new object", disc.size(what), due[what]);
        }
        for (int block = 0; block < 8; block++) {
            Check.equal("a new block's kind", disc.block(block, 0), 0);
        }
        Check.equal("errorPosition() of a new object", disc.errorPosition(), -1);
        Check.argument("parse(1) of an empty buffer", () -> disc.parse(1));
        Check.equal("undo() of a new object", disc.undo(), -1);
        Check.state("restoreSnapshot(0) of a new object", () -> disc.restoreSnapshot(0));
        Check.state("restoreSnapshot(1) of a new object", () -> disc.restoreSnapshot(1));
        Check.equal("append to a new object", disc.append(0, 0, 0, 0, 0), 20);
    }

    private static void promise2() {
        OnceDisc disc = new OnceDisc();
        for (int n = 1; n <= 30; n++) {
            Check.equal("append " + n, disc.append(0x20202020, 0x20202020, 0x20202020, 0x20202020, 0x20202020), n * 20);
        }
        Check.equal("append beyond 600", disc.append(0, 0, 0, 0, 0), -1);
        Check.equal("append beyond 600 again", disc.append(0, 0, 0, 0, 0), -1);
        Check.equal("parse of 600 spaces", disc.parse(600), 1);
        Check.equal("its position", disc.errorPosition(), 600);
        Check.equal("append after it", disc.append(0, 0, 0, 0, 0), 20);
        OnceDisc ordered = new OnceDisc();
        ordered.append('d' << 24 | 'i' << 16 | 's' << 8 | 'c', ' ' << 24 | '9' << 16 | '6' << 8 | '\n',
            '0' << 24 | '1' << 16 | '6' << 8 | ';', 0xfffefdfc, 0x80818283);
        Check.equal("the bytes in their order", ordered.parse(12), 0);
        Check.equal("blocks", ordered.size(0), 96);
        Check.equal("spare blocks", ordered.size(1), 16);
        OnceDisc high = new OnceDisc();
        Check.append(high, "disc 8 0;");
        high.append(0xe4000000, 0, 0, 0, 0);
        Check.equal("a byte above 127", high.parse(21), 1);
        Check.equal("its position", high.errorPosition(), 20);
    }

    private static void error(String text, int code, int position) {
        OnceDisc disc = new OnceDisc();
        Check.equal("parse of '" + text + "'", Check.parse(disc, text), code);
        Check.equal("errorPosition() of '" + text + "'", disc.errorPosition(), position);
    }

    private static void promise3() {
        OnceDisc disc = new OnceDisc();
        Check.argument("parse(-1)", () -> disc.parse(-1));
        Check.equal("parse(0)", disc.parse(0), 1);
        Check.equal("its position", disc.errorPosition(), 0);
        Check.append(disc, "disc 10 2;file ab;");
        Check.argument("parse beyond the buffer", () -> disc.parse(21));
        Check.argument("parse far beyond the buffer", () -> disc.parse(Integer.MAX_VALUE));
        Check.equal("the position is still the old one", disc.errorPosition(), 0);
        Check.equal("the buffer is still there", disc.parse(20), 0);
        Check.equal("blocks", disc.size(0), 10);
        Check.argument("the buffer is empty after a success", () -> disc.parse(1));
        Check.equal("parse of the first bytes alone", Check.parse(disc, "disc 9 0;"), 0);
        Check.append(disc, "disc 12 0; disc");
        Check.equal("the first bytes of a longer buffer", disc.parse(10), 0);
        Check.append(disc, "disc 960 0; disc");
        Check.equal("a number cut off by the length", disc.parse(7), 1);
        Check.equal("its position", disc.errorPosition(), 7);
        Check.append(disc, "disc 20 0;bad 1234;");
        Check.equal("a long number cut off", disc.parse(15), 1);
        Check.equal("its position is the end", disc.errorPosition(), 15);
        Check.append(disc, "disc 20 0;file abcdefghi;");
        Check.equal("a long word cut off", disc.parse(23), 1);
        Check.equal("its position is the end, too", disc.errorPosition(), 23);
        Check.append(disc, "disc 20 0;files");
        Check.equal("a keyword cut off", disc.parse(14), 1);
        Check.equal("its position is the end, too", disc.errorPosition(), 14);
        Check.argument("the rest is dropped", () -> disc.parse(1));
        Check.equal("find in an empty buffer", disc.find(), -1);
        error("disc8 0;bad7;file a;write a1 0;erase a;close;", 0, -1);
        error("\n disc\n8  0\n; ; ", 1, 14);
        error("disc 008 000;", 0, -1);
        error("disc 8 0 ;\n\n", 0, -1);
    }

    private static void promise3Invalid() {
        error("disc", 1, 4);
        error("disc  ", 1, 6);
        error("disc 8", 1, 6);
        error("disc 8 0", 1, 8);
        error("disc 8 0 \n", 1, 10);
        error("disk 8 0;", 1, 0);
        error("xisc 8 0;", 1, 0);
        error("discs 8 0;", 1, 0);
        error("dis 8 0;", 1, 0);
        error("Disc 8 0;", 1, 0);
        error("8 disc 0;", 1, 0);
        error("disc ; 0;", 1, 5);
        error("disc 8;", 1, 6);
        error("disc 8 0 0;", 1, 9);
        error("disc 8 0;;", 1, 9);
        error("disc 8 0;bad", 1, 12);
        error("disc 8 0;bad x;", 1, 13);
        error("disc 8 0;bad 1", 1, 14);
        error("disc 8 0;bad 1 bad 2;", 1, 15);
        error("disc 8 0;bat 1;", 1, 9);
        error("disc 8 0;7;", 1, 9);
        error("disc 8 0;\tbad 1;", 1, 9);
        error("disc 8 0;bad 1,", 1, 14);
        error("disc 8 0;bad -1;", 1, 13);
        error("disc 0008 0;", 1, 5);
        error("disc 1000 0;", 1, 5);
        error("disc 8 0;file abcdefgh;", 0, -1);
        error("disc 8 0;file abcdefghi;", 1, 14);
        error("disc 8 0;file 7;", 1, 14);
        error("disc 8 0;file ;", 1, 14);
        error("disc 8 0;file", 1, 13);
        error("disc 8 0;file a b;", 1, 16);
        error("disc 8 0;file a{;", 1, 15);
        error("disc 8 0;file a`;", 1, 15);
        error("disc 8 0;file a;write a;", 1, 23);
        error("disc 8 0;file a;write a 1;", 1, 25);
        error("disc 8 0;file a;write a 1 1000;", 1, 26);
        error("disc 8 0;file a;write 1 1 1;", 1, 22);
        error("disc 8 0;file a;write abcdefghi 1 1;", 1, 22);
        error("disc 8 0;file a;erase ;", 1, 22);
        error("disc 8 0;file a;erase a;", 6, 16);
        error("disc 8 0;file a;write a 1 1;erase a 1;", 1, 36);
        error("disc 8 0;file a;write a 1 1;close 1;", 1, 34);
        error("disc 8 0;file a;write a 1 1;close", 1, 33);
        error("disc 8 0:", 1, 8);
        error("disc 8 0/", 1, 8);
        error("disc 8 0;\u0000", 1, 9);
    }

    private static void promise3Ranges() {
        error("disc 7 0;", 3, 5);
        error("disc 97 0;", 3, 5);
        error("disc 96 16;", 0, -1);
        error("disc 96 17;", 3, 8);
        error("disc 8 4;", 0, -1);
        error("disc 8 5;", 3, 7);
        error("disc 9 4;", 0, -1);
        error("disc 9 5;", 3, 7);
        error("disc 31 16;", 3, 8);
        error("disc 32 16;", 0, -1);
        error("disc 7 99", 3, 5);
        error("disc 8 0;bad 8;", 3, 13);
        error("disc 8 0;bad 7;", 0, -1);
        error("disc 8 4;bad 7;bad 0;", 0, -1);
        error("disc 16 0;file a;write a 0 0;", 3, 25);
        error("disc 16 0;file a;write a 9 0;", 3, 25);
        error("disc 16 0;file a;write a 8 999;", 0, -1);
        error("disc 16 0;file a;write a 1 000;", 0, -1);
    }

    private static void promise3Names() {
        error("disc 8 0;bad 1;bad 2;bad 1;", 2, 25);
        error("disc 8 0;bad 1;bad 001;", 2, 19);
        error("disc 8 0;file ab;file a;file ab;", 2, 29);
        error("disc 8 0;file ab;file aba;file b;file baa;file ba;", 0, -1);
        error("disc 8 0;file disc;file bad;file file;file write;file erase;file close;", 0, -1);
        error("disc 8 0;file a;write b 1 1;", 4, 22);
        error("disc 8 0;file a;erase aa;", 4, 22);
        error("disc 8 0;write a 9 9;file a;", 4, 15);
        error("disc 8 0;file a;erase b", 4, 22);
        // A block that was bad when it was written has failed, and is bad already.
        error("disc 8 2;bad 0;file a;write a 1 1;bad 0;", 2, 38);
        error("disc 8 2;file a;write a 1 1;bad 0;bad 0;", 2, 38);
        String ten = "disc 8 0;file a;file b;file c;file d;file e;file f;file g;file h;file i;file j;";
        error(ten, 0, -1);
        error(ten + "file k;", 5, 79);
        error(ten + "file a;", 5, 79);
        error(ten + "file", 5, 79);
        error(ten + "file 7;", 5, 79);
        error(ten + "filed k;", 1, 79);
    }

    private static void promise3Refused() {
        error("disc 8 0;close", 6, 9);
        error("disc 8 0;close;", 6, 9);
        error("disc 8 0;close close", 6, 9);
        error("disc 8 0;file a;write a 7 5;", 0, -1);
        error("disc 8 0;file a;write a 8 5;", 6, 16);
        error("disc 8 0;file a;write a 8 5", 6, 16);
        error("disc 8 0;file a;write a 8 5 5", 6, 16);
        error("disc 8 0;file a;write a 8 ;", 1, 26);
        error("disc 8 0;file a;write a 8", 1, 25);
        error("disc 8 0;file a;write b 8 5;", 4, 22);
        error("disc 8 0;file a;write a 9 5;", 3, 24);
        error("disc 8 0;file a;erase a", 6, 16);
        error("disc 8 0;file a;erase", 1, 21);
        error("disc 8 0;file a;write a 1 1;erase a;erase a;", 6, 36);
        error("disc 8 0;file a;write a 1 1;close;close;", 6, 34);
        error("disc 8 0;bad 0;file a;write a 1 1;", 6, 22);
        error("disc 8 0;file a;write a 1 1;bad 1;close;", 6, 34);
        error("disc 8 1;file a;write a 1 1;bad 1;close;", 0, -1);
        error("disc 8 1;bad 7;file a;write a 1 1;bad 1;close;", 6, 40);
        StringBuilder twelve = new StringBuilder("disc 60 0;file a;");
        for (int n = 0; n < 12; n++) {
            twelve.append("write a 1 1;close;");
        }
        error(twelve.toString(), 0, -1);
        error(twelve + "write a 1 1;", 6, twelve.length());
        error(twelve + "erase a;", 6, twelve.length());
    }

    private static void promise3Replaces() {
        OnceDisc disc = Check.disc("disc 20 2;file a;write a 1 1;close;");
        disc.write(0, 2, 2);
        disc.setScan(true);
        disc.saveSnapshot(1);
        Check.equal("parse of a wrong text", Check.parse(disc, "disc 30 3;file b;close;"), 6);
        Check.argument("the buffer is empty after an error", () -> disc.parse(1));
        Check.equal("blocks as before", disc.size(0), 20);
        Check.equal("files as before", disc.size(2), 1);
        Check.equal("sessions as before", disc.size(3), 2);
        Check.equal("next as before", disc.size(4), 4);
        Check.equal("scan as before", disc.size(10), 1);
        Check.equal("changes to undo as before", disc.size(11), 2);
        Check.equal("the name is as before", Check.find(disc, "a"), 0);
        Check.equal("no new name", Check.find(disc, "b"), -1);
        Check.equal("the slot is as before", disc.restoreSnapshot(1), 2);
        disc.write(0, 1, 1);
        disc.saveSnapshot(0);
        Check.equal("parse of a text", Check.parse(disc, "disc 30 3;file b;file a;bad 4;"), 0);
        int[] due = {30, 3, 2, 0, 0, 3, 1, 0, 0, 0, 0, 0, 0};
        for (int what = 0; what < due.length; what++) {
            Check.equal("size(" + what + ") after parse", disc.size(what), due[what]);
        }
        Check.equal("undo after parse", disc.undo(), -1);
        Check.state("slot 0 after parse", () -> disc.restoreSnapshot(0));
        Check.state("slot 1 after parse", () -> disc.restoreSnapshot(1));
        Check.equal("saveSnapshot(0) after parse", disc.saveSnapshot(0) ? 1 : 0, 0);
        Check.equal("the new name", Check.find(disc, "a"), 1);
        Check.equal("no session in it", Check.answer(() -> disc.session(0, 0)), "throws.IndexOutOfBoundsException");
        for (int block = 0; block < 30; block++) {
            Check.equal("block " + block + " is empty", disc.block(block, 0), 0);
        }
    }

    /** Nothing of an earlier disc is left, however often texts replace one another. */
    private static void promise3Again() {
        OnceDisc disc = new OnceDisc();
        for (int n = 0; n < 4; n++) {
            Check.equal("parse " + n, Check.parse(disc, "disc 16 4;file a;file b;bad 0;write a 2 5;erase a;close;"), 0);
            int[] due = {16, 4, 2, 1, 3, 3, 1, 0, 0, 0, 0, 0, 1};
            for (int what = 0; what < due.length; what++) {
                Check.equal("size(" + what + ") after parse " + n, disc.size(what), due[what]);
            }
            for (int block = 0; block < 16; block++) {
                int kind = block == 0 ? 3 : block == 1 || block == 12 ? 1 : block == 2 ? 2 : 0;
                Check.equal("the kind of " + block + " after parse " + n, disc.block(block, 0), kind);
                Check.equal("bad " + block + " after parse " + n, disc.block(block, 1), block == 0 ? 1 : 0);
                Check.equal("unreadable " + block + " after parse " + n, disc.block(block, 2), 0);
            }
            disc.setScan(true);
            disc.write(0, 3, 1);
            disc.write(1, 2, 2);
            for (int block = n; block < 16; block += 2) {
                disc.scratch(block);
            }
            disc.crash();
        }
    }

    private static void promise4() {
        OnceDisc disc = new OnceDisc();
        Check.equal("no parse yet", disc.errorPosition(), -1);
        Check.parse(disc, "disc 8 9;");
        Check.equal("an error", disc.errorPosition(), 7);
        Check.argument("parse that throws", () -> disc.parse(1));
        Check.equal("still the error", disc.errorPosition(), 7);
        disc.scratch(0);
        disc.undo();
        Check.equal("still the error", disc.errorPosition(), 7);
        Check.parse(disc, "disc 8 0;");
        Check.equal("a success", disc.errorPosition(), -1);
    }

    private static void promise5() {
        OnceDisc disc = Check.disc("disc 20 4;file ab;bad 1;bad 17;file c;file d;write ab 2 5;close;write c 1 7;");
        int[] due = {20, 4, 3, 2, 4, 3, 2, 2, 2, 1, 0, 0, 2};
        for (int what = 0; what < due.length; what++) {
            Check.equal("size(" + what + ")", disc.size(what), due[what]);
        }
        disc.scratch(3);
        Check.equal("files that are readable", disc.size(8), 1);
        Check.equal("files that are there", disc.size(7), 2);
        disc.setScan(true);
        Check.equal("scan", disc.size(10), 1);
        Check.equal("changes", disc.size(11), 2);
        disc.scratch(18);
        Check.equal("an empty block that is bad counts", disc.size(6), 3);
        Check.equal("and is empty", disc.size(5), 3);
        Check.argument("size(13)", () -> disc.size(13));
        Check.argument("size(-1)", () -> disc.size(-1));
    }

    private static void promise6() {
        OnceDisc disc = Check.disc("disc 8 0;file ab;file abcdefgh;file a;file z;");
        Check.equal("find ab", Check.find(disc, "ab"), 0);
        Check.argument("the buffer is empty after find", () -> disc.parse(1));
        Check.equal("find abcdefgh", Check.find(disc, "abcdefgh"), 1);
        Check.equal("find a", Check.find(disc, "a"), 2);
        Check.equal("find z and many spaces", Check.find(disc, "z                                "), 3);
        Check.equal("find abcdefghi", Check.find(disc, "abcdefghi"), -1);
        Check.equal("find abcdefg", Check.find(disc, "abcdefg"), -1);
        Check.equal("a space ahead", Check.find(disc, " ab"), -1);
        Check.equal("two words", Check.find(disc, "ab ab"), -1);
        Check.equal("a line feed", Check.find(disc, "ab\n"), -1);
        Check.equal("a semicolon", Check.find(disc, "ab;"), -1);
        Check.equal("a capital", Check.find(disc, "Ab"), -1);
        Check.equal("another byte far behind", Check.find(disc, "ab                       x"), -1);
        Check.equal("a zero byte", Check.find(disc, "ab\u0000"), -1);
        Check.equal("spaces alone", Check.find(disc, " "), -1);
        Check.equal("nothing", disc.find(), -1);
        Check.equal("a digit", Check.find(disc, "1b"), -1);
        Check.equal("a capital amid", Check.find(disc, "aB"), -1);
        Check.equal("no such name", Check.find(disc, "b"), -1);
        Check.argument("the buffer is empty also then", () -> disc.parse(1));
    }
}
