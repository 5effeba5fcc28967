/** The edges of the tape and of the text of keepers: promises 1 to 5, with the sentences on TOKENS and FAULTS. */
public final class TextEdgesTest {
    private static final int NONE = LogKeepers.NONE;
    private static final String SEVEN = "keeper a;keeper b;keeper c;keeper d;keeper e;keeper f;keeper g;";
    private static final Check CHECK = new Check("TextEdgesTest");

    public static void main(String[] args) {
        noneAtFirst();
        fourHundredBytesAtMost();
        refusedFeedsBringNothing();
        highestByteFirst();
        firstBytesStay();
        everyByteAlone();
        everyByteBehindName();
        everyByteBehindKeeper();
        eightLettersAtMost();
        asLongAsCanBe();
        blanksPartOrNot();
        noNames();
        sevenKeepersAtMost();
        numberedAsTold();
        mostOfVoters();
        whatCanStandWhere();
        endOfText();
        toldAlready();
        firstByPlace();
        withoutVoters();
        tapeIsEmptyThen();
        faultOfLatest();
        CHECK.finish();
    }

    private static void due(String what, long got, long want) {
        CHECK.due(what, got, want);
    }

    private static void told(String text, int keepers) {
        Counted x = new Counted();
        Check.lay(x, text);
        due("4 keepers of '" + text + "'", x.keepers(), keepers);
        due("5 no fault of '" + text + "'", x.fault(0), 0);
        due("5 no place of '" + text + "'", x.fault(1), NONE);
        due("29 keepers of '" + text + "'", x.about(0), keepers);
    }

    private static void wrong(String text, int fault, int place) {
        Counted x = new Counted();
        Check.lay(x, text);
        due("4 keepers of '" + text + "'", x.keepers(), NONE);
        due("5 fault of '" + text + "'", x.fault(0), fault);
        due("5 place of '" + text + "'", x.fault(1), place);
        due("29 no keepers of '" + text + "'", x.about(0), 0);
    }

    private static String blanks(int n) {
        return " ".repeat(n);
    }

    private static void noneAtFirst() {
        Counted x = new Counted();
        due("1 no keepers", x.about(0), 0);
        due("1 no voters", x.about(1), 0);
        due("29 most, without keepers", x.about(2), 0);
        due("1 an empty tape", x.about(6), 0);
        due("5 no fault before the first keepers()", x.fault(0), 0);
        due("5 no place before the first keepers()", x.fault(1), NONE);
        due("1 no keeper 0", x.keeper(0, 0), -2);
        due("4 an empty tape has no voters", x.keepers(), NONE);
        due("5 without voters", x.fault(0), 4);
        due("5 the text's length", x.fault(1), 0);
    }

    private static void fourHundredBytesAtMost() {
        String few = "keeper a;" + blanks(382) + "keeper b;";
        told(few, 2);
        told(blanks(391) + "keeper a;", 1);
        told("keeper a;" + "\n".repeat(391), 1);
        wrong(blanks(392) + "keeper a", 2, 400);
        wrong("keeper a silent;" + blanks(384), 4, 400);
        wrong(blanks(400), 4, 400);
        wrong(SEVEN + blanks(336) + "!", 1, 399);
        wrong(SEVEN + blanks(336) + "z", 2, 399);
    }

    private static Counted tapeOf(int bytes) {
        Counted x = new Counted();
        Check.lay(x, "keeper a;" + blanks(bytes - 9));
        return x;
    }

    private static void refusedFeedsBringNothing() {
        for (int bytes = 379; bytes <= 400; bytes++) {
            Counted x = tapeOf(bytes);
            int then = bytes <= 380 ? bytes + 20 : bytes;
            due("2 feed behind " + bytes, x.feed(0, 0, 0, 0, 0), bytes <= 380 ? then : NONE);
            due("2 bytes behind it", x.about(6), then);
            x.keepers();
            due("2 fault behind it", x.fault(0), bytes <= 380 ? 1 : 0);
            due("2 place behind it", x.fault(1), bytes <= 380 ? bytes : NONE);
        }
        Counted y = tapeOf(381);
        y.feed(0, 0, 0, 0, 0);
        due("3 end behind a refused feed", y.end(382), NONE);
        due("3 end behind a refused feed", y.end(380), 380);
        due("2 feed up to 400", y.feed(0x20202020, 0x20202020, 0x20202020, 0x20202020, 0x20202020), 400);
        due("2 all of them are read", y.keepers(), 1);
    }

    /** A byte 255 amid blanks is no token, wherever it stands among the twenty. */
    private static void highestByteFirst() {
        for (int place = 0; place < 20; place++) {
            int[] five = {0x20202020, 0x20202020, 0x20202020, 0x20202020, 0x20202020};
            five[place / 4] |= 255 << 24 - 8 * (place % 4);
            Counted x = new Counted();
            due("2 feed", x.feed(five[0], five[1], five[2], five[3], five[4]), 20);
            x.keepers();
            due("2 fault of the byte at " + place, x.fault(0), 1);
            due("2 place of the byte at " + place, x.fault(1), place);
        }
    }

    private static void firstBytesStay() {
        Counted x = new Counted();
        due("3 end(0) of an empty tape", x.end(0), 0);
        due("3 end(1) of an empty tape", x.end(1), NONE);
        Check.lay(x, "keeper a;keeper b;!!");
        due("3 one more than there are", x.end(21), NONE);
        due("3 below 0", x.end(-1), NONE);
        due("3 far below 0", x.end(Integer.MIN_VALUE), NONE);
        due("3 far above", x.end(Integer.MAX_VALUE), NONE);
        due("3 nothing was done", x.about(6), 20);
        due("3 all of them", x.end(20), 20);
        due("3 fewer", x.end(18), 18);
        due("3 those are gone", x.end(19), NONE);
        due("3 bytes", x.about(6), 18);
        due("2 those come behind the first ones", x.feed(0x6b656570, 0x65722063, 0x3b202020, 0x20202020, 0x20202020), 38);
        due("3 the first ones stay", x.keepers(), 3);
        Check.lay(x, "keeper a;");
        due("3 to none", x.end(0), 0);
        due("3 no bytes", x.about(6), 0);
        x.keepers();
        due("3 an empty text", x.fault(1), 0);
    }

    private static boolean isLetter(int sign) {
        return sign >= 97 && sign <= 122;
    }

    private static boolean isBlank(int sign) {
        return sign == 32 || sign == 10;
    }

    private static void everyByteAlone() {
        for (int sign = 0; sign < 256; sign++) {
            if (isBlank(sign)) {
                wrong("" + (char) sign, 4, 1);
            } else {
                wrong("" + (char) sign, isLetter(sign) || sign == 59 ? 2 : 1, 0);
            }
        }
    }

    private static void everyByteBehindName() {
        for (int sign = 0; sign < 256; sign++) {
            String text = "keeper b" + (char) sign + ";";
            if (isBlank(sign) || isLetter(sign)) {
                told(text, 1);
            } else {
                wrong(text, sign == 59 ? 2 : 1, sign == 59 ? 9 : 8);
            }
        }
    }

    private static void everyByteBehindKeeper() {
        for (int sign = 0; sign < 256; sign++) {
            String text = "keeper" + (char) sign + "b;";
            if (isBlank(sign)) {
                told(text, 1);
            } else if (isLetter(sign)) {
                wrong(text, 2, 0);
            } else {
                wrong(text, sign == 59 ? 2 : 1, 6);
            }
        }
    }

    private static void eightLettersAtMost() {
        for (int letters = 1; letters <= 30; letters++) {
            String word = "x".repeat(letters);
            if (letters <= 8) {
                told("keeper " + word + ";", 1);
                told("keeper " + word + " silent;keeper y;", 2);
            } else {
                wrong("keeper " + word + ";", 1, 7);
                wrong("keeper " + word, 1, 7);
            }
            wrong(word + " a;", letters <= 8 ? 2 : 1, 0);
            wrong("keeper a " + word + ";", letters <= 8 ? 2 : 1, 9);
            wrong("keeper a silent " + word, letters <= 8 ? 2 : 1, 16);
        }
        told("keeper aaaaaaaa;keeper aaaaaaab;keeper aaaaaaa;", 3);
        wrong("keeper aaaaaaaa;keeper aaaaaaaa;", 3, 23);
        told("keeper abcdefgh;keeper ijklmnop;keeper qrstuvwx;keeper yz;", 4);
    }

    private static void asLongAsCanBe() {
        wrong("keepera;", 2, 0);
        wrong("keeper akeeper;;", 2, 15);
        told("keeper asilent;", 1);
        Counted x = Check.made("keeper asilent;");
        due("4 'asilent' is one name", x.keeper(0, 9), 1);
        wrong("keeper keeperab;keeper keeperab;", 3, 23);
        wrong("keeper a silentx;", 2, 9);
        wrong("keepe r a;", 2, 0);
        wrong("keeper a sil ent;", 2, 9);
    }

    private static void blanksPartOrNot() {
        told("keeper a;keeper b;", 2);
        told("keeper a ; keeper b ;", 2);
        told("  keeper  \n\n a \n silent \n ; keeper\nb\n;\n\n", 2);
        told("keeper a silent;keeper b;", 2);
        told("\n\nkeeper a;", 1);
        wrong("keeper a ;; ", 2, 10);
    }

    private static void noNames() {
        wrong("keeper keeper;", 2, 7);
        wrong("keeper silent;", 2, 7);
        wrong("keeper silent silent;", 2, 7);
        wrong("keeper keeper silent;", 2, 7);
        told("keeper keepe;keeper keepers;keeper silen;keeper silents;keeper eeper;keeper ilent;", 6);
    }

    private static void sevenKeepersAtMost() {
        told(SEVEN, 7);
        told(SEVEN + "\n ", 7);
        wrong(SEVEN + "keeper h;", 2, 63);
        wrong(SEVEN + "  keeper h;", 2, 65);
        wrong(SEVEN + "keeper a;", 2, 63);
        wrong(SEVEN + "keeper", 2, 63);
        wrong(SEVEN + "keeper !", 2, 63);
        wrong(SEVEN + ";", 2, 63);
        wrong(SEVEN + "?", 1, 63);
        wrong(SEVEN + "keeperabc", 1, 63);
        wrong(SEVEN.replace("g;", "a;") + "keeper h;", 3, 61);
        told("keeper a silent;keeper b silent;keeper c silent;keeper d silent;keeper e silent;keeper f silent;keeper g;", 7);
        wrong("keeper a silent;keeper b silent;keeper c silent;keeper d silent;keeper e silent;keeper f silent;"
                + "keeper g silent;keeper h;", 2, 112);
    }

    private static void numberedAsTold() {
        Counted x = Check.made("keeper z;keeper m silent;keeper a;keeper b silent;");
        int[] voter = {1, 0, 1, 0, -2};
        for (int k = 0; k < voter.length; k++) {
            due("4 voter " + k, x.keeper(k, 9), voter[k]);
        }
        due("29 voters", x.about(1), 2);
        Check.lay(x, "keeper z;keeper m;keeper a silent;keeper b silent;");
        x.keepers();
        int[] anew = {1, 1, 0, 0, -2};
        for (int k = 0; k < anew.length; k++) {
            due("4 voter " + k + ", told anew", x.keeper(k, 9), anew[k]);
        }
        Check.lay(x, "keeper z;");
        x.keepers();
        due("4 fewer than before", x.about(0), 1);
        due("4 the others are gone", x.keeper(1, 9), -2);
    }

    private static void mostOfVoters() {
        int[] most = {0, 1, 2, 2, 3, 3, 4, 4};
        for (int voters = 1; voters <= 7; voters++) {
            for (int silent = 0; voters + silent <= 7; silent++) {
                StringBuilder text = new StringBuilder();
                for (int i = 0; i < voters + silent; i++) {
                    text.append("keeper ").append((char) (97 + i)).append(i < silent ? " silent;" : ";");
                }
                Counted x = Check.made(text.toString());
                due("29 voters", x.about(1), voters);
                due("29 most of " + voters + " beside " + silent, x.about(2), most[voters]);
            }
        }
    }

    private static void whatCanStandWhere() {
        wrong("a", 2, 0);
        wrong("silent", 2, 0);
        wrong(";", 2, 0);
        wrong("keeper ;", 2, 7);
        wrong("keeper a a;", 2, 9);
        wrong("keeper a keeper", 2, 9);
        wrong("keeper a silent silent", 2, 16);
        wrong("keeper a silent b", 2, 16);
        wrong("keeper a silent keeper b;", 2, 16);
        wrong("keeper a; silent;", 2, 10);
        wrong("keeper a; a;", 2, 10);
        wrong("keeper a;;", 2, 9);
    }

    private static void endOfText() {
        String[] early = {"keeper", "keeper ", "keeper a", "keeper a\n", "keeper a silent", "keeper a silent ",
            "keeper a;keeper", "keeper a;keeper b", "keeper a;keeper b silent  "};
        for (String text : early) {
            wrong(text, 2, text.length());
        }
        wrong("keeper a;keeper a", 3, 16);
        wrong(SEVEN + "keeper", 2, 63);
    }

    private static void toldAlready() {
        wrong("keeper a;keeper a;", 3, 16);
        wrong("keeper a silent;keeper a;", 3, 23);
        wrong("keeper a;keeper b;keeper  b silent;", 3, 26);
        wrong("keeper a;keeper b;keeper c;keeper d;keeper e;keeper f;keeper a;", 3, 61);
        wrong("keeper ab;keeper\nab", 3, 17);
        told("keeper a;keeper aa;keeper aaa;", 3);
        told("keeper ab;keeper ba;keeper b;keeper a;", 4);
    }

    private static void firstByPlace() {
        wrong("keeper a;keeper a;!", 3, 16);
        wrong("keeper a;!keeper a;", 1, 9);
        wrong("keeper a;;!", 2, 9);
        wrong("keeper a;keeper a!;", 3, 16);
        wrong("keeper a;keeper keeper!", 2, 16);
        wrong("keeper a silent;keeper a silent;", 3, 23);
        wrong("keeper a silent;!", 1, 16);
        wrong("keeper a silent;;", 2, 16);
        wrong("keeper a silent", 2, 15);
    }

    private static void withoutVoters() {
        wrong("", 4, 0);
        wrong(" ", 4, 1);
        wrong("keeper a silent;", 4, 16);
        wrong("keeper a silent;\n ", 4, 18);
        wrong("keeper a silent;keeper b silent;", 4, 32);
        told("keeper a silent;keeper b;", 2);
        told("keeper a;keeper b silent;", 2);
    }

    private static void tapeIsEmptyThen() {
        Counted x = new Counted();
        Check.lay(x, "keeper a;");
        x.keepers();
        due("4 the tape is empty", x.about(6), 0);
        due("3 nothing of it is there", x.end(1), NONE);
        due("4 told once", x.keepers(), NONE);
        due("4 the keepers stay", x.about(0), 1);
        Check.lay(x, "keeper a;keeper b;");
        due("4 told anew", x.keepers(), 2);
    }

    private static void faultOfLatest() {
        Counted x = new Counted();
        Check.lay(x, "keeper a;!");
        x.keepers();
        Check.lay(x, "keeper a;keeper a;");
        due("5 feeding changes no fault", x.fault(1), 9);
        x.keepers();
        due("5 the latest one's fault", x.fault(0), 3);
        due("5 the latest one's place", x.fault(1), 16);
        due("5 what 2", x.fault(2), NONE);
        due("5 what -1", x.fault(-1), NONE);
        due("5 what, the least", x.fault(Integer.MIN_VALUE), NONE);
        due("5 what, the greatest", x.fault(Integer.MAX_VALUE), NONE);
        Check.lay(x, "keeper a;");
        x.keepers();
        due("5 none", x.fault(0), 0);
        due("5 no place", x.fault(1), NONE);
    }
}
