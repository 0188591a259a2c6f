/** Promises 7 to 22: what the disc, its sessions and files are, what would be, and space. */
public final class ViewTest {
    // Blocks: 0 data, 1 failed (data in 16), 2 directory, 3 data, 4 directory; session 1 hides file ab.
    private static final String TWO =
        "disc 20 4;file ab;file c;bad 1;write ab 2 5;close;write c 1 7;erase ab;close;";

    public static void main(String[] args) {
        promise7();
        promise8();
        promise9();
        promise9Links();
        promise10();
        promise11();
        promise12();
        promise13();
        promise14();
        promise15();
        promise16();
        promise17();
        promise18();
        promise19();
        promise20();
        promise21();
        promise22();
        Check.end();
    }

    private static void block(OnceDisc disc, int block, int... due) {
        for (int what = 0; what < due.length; what++) {
            Check.equal("block(" + block + ", " + what + ")", disc.block(block, what), due[what]);
        }
    }

    private static void session(OnceDisc disc, int session, int... due) {
        for (int what = 0; what < due.length; what++) {
            Check.equal("session(" + session + ", " + what + ")", disc.session(session, what), due[what]);
        }
    }

    private static void entry(OnceDisc disc, int session, int k, int... due) {
        for (int part = 0; part < due.length; part++) {
            Check.equal("entry(" + session + ", " + k + ", " + part + ")", disc.entry(session, k, part), due[part]);
        }
    }

    private static void file(OnceDisc disc, int file, int... due) {
        for (int what = 0; what < due.length; what++) {
            Check.equal("file(" + file + ", " + what + ")", disc.file(file, what), due[what]);
        }
    }

    private static void promise7() {
        OnceDisc disc = Check.disc("disc 12 4;file a;file b;bad 1;bad 8;bad 3;write a 3 5;bad 0;write b 1 6;close;");
        block(disc, 0, 1, 1, 0, 0, 0, 0, -1);
        block(disc, 1, 3, 1, 0, 0, -1, -1, -1);
        block(disc, 2, 1, 0, 0, 0, 0, 2, -1);
        block(disc, 3, 3, 1, 0, 0, -1, -1, -1);
        block(disc, 4, 2, 0, 0, 0, -1, 0, -1);
        block(disc, 5, 0, 0, 0, -1, -1, -1, -1);
        block(disc, 8, 3, 1, 0, 0, -1, -1, -1);
        block(disc, 9, 1, 0, 0, 0, 0, 1, 1);
        block(disc, 10, 1, 0, 0, 0, 1, 0, 3);
        block(disc, 11, 0, 0, 0, -1, -1, -1, -1);
        disc.scratch(11);
        block(disc, 11, 0, 1, 0, -1, -1, -1, -1);
        disc.scratch(1);
        block(disc, 1, 3, 1, 1, 0, -1, -1, -1);
        OnceDisc directory = Check.disc("disc 12 4;file a;file b;file c;file d;file e;write a 1 1;write b 1 1;"
            + "write c 1 1;write d 1 1;close;bad 5;write e 1 2;close;");
        block(directory, 8, 1, 0, 0, 1, 4, 0, 5);
        OnceDisc wide = Check.disc("disc 16 2;file a;file b;file c;file d;file e;bad 6;write a 1 1;write b 1 1;"
            + "write c 1 1;write d 1 1;write e 1 1;close;");
        block(wide, 5, 2, 0, 0, 0, -1, 0, -1);
        block(wide, 6, 3, 1, 0, 0, -1, -1, -1);
        block(wide, 14, 2, 0, 0, 0, -1, 1, 6);
        Check.index("block(-1, 0)", () -> disc.block(-1, 0));
        Check.index("block(12, 9)", () -> disc.block(12, 9));
        Check.argument("block(11, 7)", () -> disc.block(11, 7));
        Check.argument("block(0, -1)", () -> disc.block(0, -1));
    }

    private static void promise8() {
        OnceDisc disc = Check.disc("disc 12 4;file a;bad 1;bad 8;bad 3;write a 3 5;close;");
        int[] due = {0, 9, 2, 10, -1, -1, -1, -1, -1, -1, -1, -1};
        for (int block = 0; block < due.length; block++) {
            Check.equal("place(" + block + ")", disc.place(block), due[block]);
        }
        disc.scratch(10);
        disc.scratch(0);
        Check.equal("place of a scratched block", disc.place(0), 0);
        Check.equal("place at a scratched block", disc.place(3), 10);
        Check.index("place(12)", () -> disc.place(12));
        Check.index("place(-1)", () -> disc.place(-1));
    }

    private static void promise9() {
        OnceDisc disc = Check.disc(TWO);
        session(disc, 0, 1, 0, 3, 1, 2, 1, -1, 1, 1);
        session(disc, 1, 1, 3, 2, 2, 4, 1, 0, 1, 0);
        disc.write(0, 2, 1);
        session(disc, 2, 0, 5, 2, 1, -1, 0, -1, 1, 0);
        disc.crash();
        session(disc, 2, 2, 5, 2, 0, -1, 0, -1, 0, 0);
        disc.recover();
        session(disc, 2, 3, 5, 2, 0, -1, 0, -1, 0, 0);
        session(disc, 3, 1, 7, 1, 1, 7, 1, 1, 1, 0);
        disc.scratch(4);
        session(disc, 3, 1, 7, 1, 1, 7, 1, 1, 1, 0);
        session(disc, 1, 1, 3, 2, 2, 4, 0, 0, 0, 0);
        session(disc, 0, 1, 0, 3, 1, 2, 1, -1, 0, 1);
        disc.setScan(true);
        session(disc, 0, 1, 0, 3, 1, 2, 1, -1, 1, 1);
        session(disc, 1, 1, 3, 2, 2, 4, 0, 0, 0, 0);
        Check.index("session(4, 9)", () -> disc.session(4, 9));
        Check.index("session(-1, 0)", () -> disc.session(-1, 0));
        Check.argument("session(3, 9)", () -> disc.session(3, 9));
        Check.argument("session(3, -1)", () -> disc.session(3, -1));
        // Two spare blocks that failed were written by the session, too.
        OnceDisc spare = Check.disc("disc 12 4;file a;bad 8;bad 9;bad 0;write a 1 1;");
        Check.equal("spare blocks of a session", spare.session(0, 8), 3);
        Check.equal("main blocks of a session", spare.session(0, 2), 1);
    }

    private static void promise9Links() {
        OnceDisc disc = Check.disc("disc 30 2;file a;bad 3;write a 1 1;close;");
        disc.write(0, 1, 2);
        disc.crash();
        disc.write(0, 1, 3);
        disc.close();
        session(disc, 2, 1, 3, 2, 1, 4, 1, 0, 1, 1);
        // The directory's own block counts, not another one: 1 is the directory of session 0.
        disc.scratch(1);
        Check.equal("session 2 is reached", disc.session(2, 7), 1);
        Check.equal("session 0 is not", disc.session(0, 7), 0);
        Check.equal("a link to it stays", disc.session(2, 6), 0);
        OnceDisc moved = Check.disc("disc 30 2;file a;bad 1;write a 1 1;close;");
        moved.scratch(1);
        Check.equal("a failed block of a directory does not matter", moved.session(0, 5), 1);
        moved.scratch(28);
        Check.equal("its spare block does", moved.session(0, 5), 0);
        OnceDisc wide = Check.disc("disc 30 2;file a;file b;file c;file d;file e;write a 1 1;write b 1 1;"
            + "write c 1 1;write d 1 1;write e 1 1;close;");
        Check.equal("blocks of five entries", wide.session(0, 2), 7);
        wide.scratch(6);
        Check.equal("the second block of a directory", wide.session(0, 5), 0);
        Check.equal("no file is there", wide.size(7), 0);
    }

    private static void promise10() {
        OnceDisc disc = Check.disc(TWO);
        entry(disc, 0, 0, 0, 0, 0, 2, 5);
        entry(disc, 1, 0, 1, 1, 3, 1, 7);
        entry(disc, 1, 1, 0, -1, -1, 0, -1);
        entry(disc, 1, 2, -1, -1, -1, -1, -1);
        entry(disc, 1, -1, -1, -1, -1, -1, -1);
        entry(disc, 1, Integer.MAX_VALUE, -1, -1, -1, -1, -1);
        disc.write(0, 1, 11);
        disc.write(1, 2, 12);
        disc.write(0, 3, 13);
        entry(disc, 2, 0, 0, 4, 8, 3, 13);
        entry(disc, 2, 1, 1, 3, 6, 2, 12);
        entry(disc, 2, 2, -1, -1, -1, -1, -1);
        disc.erase(0);
        entry(disc, 2, 0, 0, -1, -1, 0, -1);
        disc.crash();
        entry(disc, 2, 0, -1, -1, -1, -1, -1);
        Check.index("entry(3, 0, 5)", () -> disc.entry(3, 0, 5));
        Check.index("entry(-1, 0, 0)", () -> disc.entry(-1, 0, 0));
        Check.argument("entry(1, 0, 5)", () -> disc.entry(1, 0, 5));
        Check.argument("entry(1, 9, 5)", () -> disc.entry(1, 9, 5));
        Check.argument("entry(1, 0, -1)", () -> disc.entry(1, 0, -1));
    }

    private static void promise11() {
        OnceDisc disc = Check.disc(TWO.replace("file c;", "file c;file d;"));
        file(disc, 0, 0, 0, -1, 0, -1, 1, 1);
        file(disc, 1, 1, 1, 1, 1, 7, 1, 1);
        file(disc, 2, 0, 0, -1, 0, -1, -1, 0);
        disc.write(0, 2, 9);
        file(disc, 0, 1, 1, 2, 2, 9, 2, 2);
        disc.scratch(6);
        file(disc, 0, 1, 0, 2, 2, 9, 2, 2);
        disc.crash();
        file(disc, 0, 0, 0, -1, 0, -1, 1, 2);
        // Without its directory the session 1 does not hide ab any more, but only scan finds the session 0.
        disc.scratch(4);
        file(disc, 0, 0, 0, -1, 0, -1, -1, 2);
        file(disc, 1, 0, 0, -1, 0, -1, -1, 1);
        disc.setScan(true);
        file(disc, 0, 1, 1, 0, 2, 5, 0, 2);
        file(disc, 1, 0, 0, -1, 0, -1, -1, 1);
        disc.scratch(1);
        file(disc, 0, 1, 1, 0, 2, 5, 0, 2);
        disc.scratch(16);
        file(disc, 0, 1, 0, 0, 2, 5, 0, 2);
        Check.index("file(3, 9)", () -> disc.file(3, 9));
        Check.index("file(-1, 0)", () -> disc.file(-1, 0));
        Check.argument("file(0, 7)", () -> disc.file(0, 7));
        Check.argument("file(0, -1)", () -> disc.file(0, -1));
        // The session whose entry counts is the one that recovered the version, not the one that wrote it.
        OnceDisc recovered = Check.disc("disc 20 0;file a;write a 2 5;");
        recovered.crash();
        recovered.recover();
        file(recovered, 0, 1, 1, 0, 2, 5, 1, 1);
    }

    private static void promise12() {
        OnceDisc disc = Check.disc("disc 20 4;file ab;file c;bad 1;write ab 2 5;close;");
        Check.equal("where(0, 0)", disc.where(0, 0), 0);
        Check.equal("where(0, 1)", disc.where(0, 1), 16);
        Check.equal("where(0, 2)", disc.where(0, 2), -1);
        Check.equal("where(0, -1)", disc.where(0, -1), -1);
        Check.equal("where(0, least)", disc.where(0, Integer.MIN_VALUE), -1);
        Check.equal("where(0, greatest)", disc.where(0, Integer.MAX_VALUE), -1);
        Check.equal("where(1, 0)", disc.where(1, 0), -1);
        disc.scratch(16);
        Check.equal("where of an unreadable block", disc.where(0, 1), 16);
        disc.erase(0);
        Check.equal("where of a file that is erased", disc.where(0, 0), -1);
        Check.index("where(2, 0)", () -> disc.where(2, 0));
        Check.index("where(-1, 0)", () -> disc.where(-1, 0));
    }

    private static void promise13() {
        OnceDisc disc = Check.disc("disc 20 4;file a;bad 1;bad 3;bad 5;bad 16;write a 2 5;close;");
        Check.equal("defect(0, false)", disc.defect(0, false), 1);
        Check.equal("defect(0, true)", disc.defect(0, true), 17);
        Check.equal("defect(1, false)", disc.defect(1, false), -1);
        disc.write(0, 1, 1);
        Check.equal("of an open session", disc.defect(1, true), 18);
        disc.crash();
        Check.equal("of a lost session", disc.defect(1, true), -1);
        disc.recover();
        Check.equal("of a recovered session", disc.defect(1, false), 3);
        disc.write(0, 1, 1);
        Check.equal("defect(2, false)", disc.defect(2, false), 5);
        Check.equal("defect(2, true)", disc.defect(2, true), 19);
        Check.equal("defect(3, true)", disc.defect(3, true), -1);
        Check.equal("defect(-1, true)", disc.defect(-1, true), -1);
        Check.equal("defect(-1, false)", disc.defect(-1, false), -1);
        Check.equal("defect(greatest, false)", disc.defect(Integer.MAX_VALUE, false), -1);
        // A lost session amid others is left out, and a bad block that is data already was never relocated.
        OnceDisc amid = Check.disc("disc 20 4;file a;bad 0;bad 1;bad 3;write a 1 1;");
        amid.crash();
        amid.write(0, 1, 2);
        amid.close();
        amid.write(0, 1, 3);
        Check.equal("the first of others", amid.defect(0, false), 1);
        Check.equal("the second of others", amid.defect(1, false), 3);
        Check.equal("no third", amid.defect(2, false), -1);
    }

    private static void promise14() {
        OnceDisc disc = Check.disc("disc 10 2;file a;file b;file c;file d;file e;bad 3;bad 4;bad 8;");
        Check.equal("a length with one bad block", disc.whyNotWrite(0, 4), 0);
        Check.equal("a length with two bad blocks", disc.whyNotWrite(0, 5), 5);
        Check.equal("a length that fills the main area", disc.whyNotWrite(0, 7), 5);
        Check.equal("a length without room for the directory", disc.whyNotWrite(0, 8), 4);
        Check.equal("nothing changes", disc.size(4), 0);
        disc.write(0, 1, 1);
        disc.write(1, 1, 1);
        disc.write(2, 1, 1);
        Check.equal("with one entry more", disc.whyNotWrite(3, 1), 0);
        Check.equal("a length ahead of the spare blocks", disc.whyNotWrite(3, 4), 5);
        Check.equal("without room", disc.whyNotWrite(3, 5), 4);
        disc.write(3, 1, 1);
        Check.equal("a fifth entry needs two blocks", disc.whyNotWrite(4, 3), 4);
        Check.equal("an entry again needs one", disc.whyNotWrite(3, 3), 5);
        OnceDisc full = Check.disc("disc 40 0;file a;");
        for (int n = 0; n < 12; n++) {
            full.write(0, 1, 1);
            Check.equal("the open session is no more", full.whyNotWrite(0, 1), 0);
            full.close();
        }
        Check.equal("12 sessions", full.whyNotWrite(0, 1), 3);
        Check.index("whyNotWrite(1, 0)", () -> full.whyNotWrite(1, 0));
        Check.index("whyNotWrite(-1, 1)", () -> full.whyNotWrite(-1, 1));
        Check.argument("whyNotWrite(0, 0)", () -> full.whyNotWrite(0, 0));
        Check.argument("whyNotWrite(0, 9)", () -> full.whyNotWrite(0, 9));
    }

    private static void promise15() {
        OnceDisc disc = Check.disc("disc 8 1;file a;file b;");
        why(disc, 1, 1, 2);
        disc.write(0, 1, 1);
        why(disc, 0, 0, 2);
        disc.scratch(1);
        why(disc, 0, 0, 2);
        disc.scratch(7);
        why(disc, 5, 0, 2);
        disc.crash();
        why(disc, 1, 1, 5);
        disc.scratch(0);
        why(disc, 1, 1, 2);
        OnceDisc full = Check.disc("disc 40 0;file a;");
        for (int n = 0; n < 12; n++) {
            full.write(0, 1, 1);
            full.crash();
            Check.equal("recover after " + n, full.whyNot(2), n < 11 ? 0 : 3);
        }
        Check.equal("couldRecover() is not refused", full.couldRecover(), 1);
        OnceDisc erased = Check.disc("disc 8 0;file a;write a 1 1;close;erase a;");
        erased.crash();
        Check.equal("no version can be recovered", erased.whyNot(2), 2);
        Check.argument("whyNot(3)", () -> disc.whyNot(3));
        Check.argument("whyNot(-1)", () -> disc.whyNot(-1));
    }

    private static void why(OnceDisc disc, int close, int crash, int recover) {
        Check.equal("whyNot(0)", disc.whyNot(0), close);
        Check.equal("whyNot(1)", disc.whyNot(1), crash);
        Check.equal("whyNot(2)", disc.whyNot(2), recover);
    }

    private static void promise16() {
        OnceDisc disc = Check.disc("disc 30 1;file a;file b;file c;write a 1 1;close;");
        Check.equal("a closed session", disc.couldRecover(), 0);
        disc.write(0, 1, 1);
        disc.write(1, 2, 1);
        disc.write(0, 2, 2);
        disc.write(2, 1, 2);
        disc.erase(2);
        Check.equal("an open session", disc.couldRecover(), 0);
        disc.crash();
        Check.equal("three files", disc.couldRecover(), 3);
        disc.scratch(6);
        Check.equal("an earlier version of the file", disc.couldRecover(), 3);
        disc.scratch(2);
        Check.equal("no version of the file", disc.couldRecover(), 2);
        disc.scratch(4);
        Check.equal("one file", disc.couldRecover(), 1);
        disc.scratch(7);
        Check.equal("no file", disc.couldRecover(), 0);
        Check.equal("a new object", new OnceDisc().couldRecover(), 0);
        OnceDisc twice = Check.disc("disc 30 0;file a;write a 1 1;write a 1 2;");
        twice.crash();
        Check.equal("two versions of one file", twice.couldRecover(), 1);
    }

    private static void promise17() {
        OnceDisc disc = Check.disc(TWO);
        int[] due = {0, 0, 0, 1, 1, 0};
        for (int block = 0; block < due.length; block++) {
            Check.equal("risk(" + block + ")", disc.risk(block), due[block]);
        }
        Check.equal("nothing has changed", disc.block(3, 2), 0);
        Check.equal("no change to undo", disc.size(11), 0);
        disc.write(0, 1, 3);
        Check.equal("risk of a block of an open session", disc.risk(5), 1);
        disc.close();
        Check.equal("the last directory holds all", disc.risk(6), 2);
        disc.setScan(true);
        Check.equal("with scan it holds one", disc.risk(6), 1);
        disc.scratch(5);
        Check.equal("unreadable already", disc.risk(5), 0);
        Check.equal("its directory: the file is not readable before", disc.risk(6), 0);
        // An older version is there and readable if the newer directory is lost.
        OnceDisc older = Check.disc("disc 20 0;file a;write a 1 1;close;write a 1 2;close;");
        older.setScan(true);
        Check.equal("an older version comes back", older.risk(3), 0);
        Check.equal("the block of the newer version", older.risk(2), 1);
        OnceDisc moved = Check.disc("disc 20 2;file a;bad 0;write a 1 1;close;");
        Check.equal("the failed block", moved.risk(0), 0);
        Check.equal("its place", moved.risk(18), 1);
        Check.equal("an empty block", moved.risk(2), 0);
        Check.index("risk(20)", () -> moved.risk(20));
        Check.index("risk(-1)", () -> moved.risk(-1));
    }

    private static void promise18() {
        Check.equal("no risk at all", new OnceDisc().weakest(), 0);
        OnceDisc disc = Check.disc(TWO);
        Check.equal("the least of several", disc.weakest(), 3);
        disc.write(0, 1, 3);
        disc.close();
        Check.equal("the directory on which two files depend", disc.weakest(), 6);
        disc.scratch(4);
        Check.equal("session 2 alone", disc.weakest(), 5);
        OnceDisc spare = Check.disc("disc 20 2;file a;bad 0;bad 1;write a 1 1;close;");
        Check.equal("a spare block", spare.weakest(), 18);
        Check.equal("nothing has changed", spare.size(8), 1);
        OnceDisc first = Check.disc("disc 20 0;file a;write a 1 1;close;");
        Check.equal("the first block", first.weakest(), 0);
    }

    private static void promise19() {
        OnceDisc disc = Check.disc(TWO);
        Check.equal("filesBefore(0)", disc.filesBefore(0), 0);
        Check.equal("filesBefore(1)", disc.filesBefore(1), 1);
        disc.write(0, 1, 1);
        Check.equal("filesBefore(2)", disc.filesBefore(2), 1);
        Check.equal("filesBefore(1) again", disc.filesBefore(1), 1);
        disc.scratch(4);
        Check.equal("session 0 is not reached", disc.filesBefore(1), 0);
        disc.setScan(true);
        Check.equal("session 0 is reached", disc.filesBefore(1), 1);
        Check.equal("session 1 is not", disc.filesBefore(2), 1);
        Check.index("filesBefore(3)", () -> disc.filesBefore(3));
        Check.index("filesBefore(-1)", () -> disc.filesBefore(-1));
    }

    private static void promise20() {
        OnceDisc disc = Check.disc(TWO);
        spaces(disc, 14, 1, 2, 2, 1);
        disc.write(0, 3, 1);
        spaces(disc, 11, 4, 2, 2, 1);
        disc.scratch(5);
        spaces(disc, 11, 4, 2, 2, 1);
        disc.crash();
        spaces(disc, 11, 1, 5, 2, 1);
        disc.scratch(4);
        spaces(disc, 11, 0, 6, 2, 1);
        Check.argument("space(5)", () -> disc.space(5));
        Check.argument("space(-1)", () -> disc.space(-1));
        spaces(new OnceDisc(), 8, 0, 0, 0, 0);
    }

    private static void spaces(OnceDisc disc, int... due) {
        for (int use = 0; use < due.length; use++) {
            Check.equal("space(" + use + ")", disc.space(use), due[use]);
        }
    }

    private static void promise21() {
        OnceDisc disc = Check.disc(TWO);
        spacesOf(disc, 0, 0, 2, 1, 1);
        spacesOf(disc, 1, 1, 0, 1, 0);
        disc.write(0, 3, 1);
        disc.write(0, 2, 1);
        spacesOf(disc, 2, 2, 3, 0, 0);
        disc.crash();
        spacesOf(disc, 2, 0, 5, 0, 0);
        disc.recover();
        spacesOf(disc, 2, 2, 3, 0, 0);
        spacesOf(disc, 3, 0, 0, 1, 0);
        Check.index("spaceOf(4, 0)", () -> disc.spaceOf(4, 0));
        Check.index("spaceOf(-1, 1)", () -> disc.spaceOf(-1, 1));
        Check.argument("spaceOf(0, 0)", () -> disc.spaceOf(0, 0));
        Check.argument("spaceOf(0, 5)", () -> disc.spaceOf(0, 5));
    }

    private static void spacesOf(OnceDisc disc, int session, int... due) {
        for (int use = 1; use <= due.length; use++) {
            Check.equal("spaceOf(" + session + ", " + use + ")", disc.spaceOf(session, use), due[use - 1]);
        }
    }

    private static void promise22() {
        OnceDisc disc = Check.disc(TWO);
        Check.isTrue("share() is one of six", disc.share() == 1.0 / 6);
        disc.scratch(9);
        Check.isTrue("a bad block is empty still", disc.share() == 1.0 / 6);
        disc.scratch(4);
        Check.isTrue("share() is none of six", disc.share() == 0.0);
        Check.isTrue("share() of an empty disc", new OnceDisc().share() == 1.0);
        OnceDisc open = Check.disc("disc 8 0;file a;write a 2 1;");
        Check.isTrue("share() is all", open.share() == 1.0);
        OnceDisc one = Check.disc("disc 8 0;file a;write a 1 1;");
        one.crash();
        Check.isTrue("share() is none of one", one.share() == 0.0);
    }
}
