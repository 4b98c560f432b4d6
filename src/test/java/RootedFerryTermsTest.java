/**
 * The sentences under 'Terms' that name a boundary case, in the document's order.
 * Each has a test of its own, which begins with the sentence.
 */
public final class RootedFerryTermsTest {
    private static final String FULL = "01234567890123456789012345678901";

    public static void main(String[] args) {
        lengthOfNames();
        charactersOfNames();
        dotsAreNoNames();
        nodesOfBothKinds();
        namesDifferInADirectory();
        sizeOfFiles();
        valuesOfBytes();
        bytesOfAllFiles();
        bytesOfAllAccounts();
        fourAccounts();
        rootsAreEmptyAtFirst();
        rootsAreApart();
        pathsAsSaid();
        pathsFromRootAndCurrent();
        partsOfPaths();
        aboveTheRoot();
        goneFromAFile();
        goneFromNothing();
        places();
        noPlaces();
        lettersOfCommands();
        spaceAndArgument();
        openedAgain();
        openedAgainForgets();
        linesNotAsSaid();
        unknownCommands();
        argumentsMissing();
        argumentsTooMany();
        nobodyLoggedIn();
        duringTransfers();
        argumentBeforeLogin();
        loginBeforeTransfer();
        restartForOneLine();
        userForOneLine();
        renamedForOneLine();
        Checks.finish();
    }

    private static Client sentence(String words) {
        Checks.topic(words);
        return Checks.loggedIn();
    }

    private static void dueLine(Client ferry, String line, int want) {
        Checks.dueLine(ferry, line, want);
    }

    private static void dueAll(Client ferry, String command, int want, String... arguments) {
        for (String argument : arguments) {
            dueLine(ferry, command + " " + argument, want);
        }
    }

    private static void due(String what, long got, long want) {
        Checks.due(what, got, want);
    }

    private static void due(String what, boolean got, boolean want) {
        Checks.due(what, got, want);
    }

    // Names, nodes, bytes, accounts

    private static void lengthOfNames() {
        Client ferry = sentence("A NAME has 1 .. 6 characters");
        dueAll(ferry, "MKD", 257, "a", "ab", "abcde", "abcdef");
        dueAll(ferry, "MKD", 501, "abcdefg", "abcdefgh", "abcdef/abcdefg", "abcdefg/a", "/abcdefg");
        dueAll(ferry, "CWD", 501, "abcdefg/..", "./abcdefg/");
        dueAll(ferry, "USER", 331, "a", "abcdef");
        dueAll(ferry, "USER", 501, "abcdefg");
        dueAll(ferry, "PASS", 501, "abcdefg");
        ferry = new Client();
        due("a user of 0", Checks.account(ferry, "", "p"), false);
        due("a password of 0", Checks.account(ferry, "u", ""), false);
        due("a user of 7", Checks.account(ferry, "abcdefg", "p"), false);
        due("a password of 7", Checks.account(ferry, "u", "abcdefg"), false);
        due("a user of 8", Checks.account(ferry, "abcdefgh", "p"), false);
        due("a password of 8", Checks.account(ferry, "u", "abcdefgh"), false);
        due("both of 6", Checks.account(ferry, "abcdef", "ghijkl"), true);
        due("both of 1", Checks.account(ferry, "a", "b"), true);
        due("nodes()", ferry.nodes(), 2);
    }

    private static boolean isSign(int code) {
        return code >= 'a' && code <= 'z' || code >= '0' && code <= '9' || code == '-' || code == '.';
    }

    private static void charactersOfNames() {
        Client ferry = sentence("characters a .. z, 0 .. 9, '-' or '.'");
        for (int code = 32; code <= 126; code++) {
            boolean isPath = isSign(code) || code == '/';
            dueLine(ferry, "SIZE x" + (char) code, isPath ? 550 : 501);
        }
        for (int code = 1; code < 256; code++) {
            ferry = new Client();
            long user = 'x' | (long) code << 8;
            due("a user with " + code, ferry.account(user, 'p'), isSign(code));
            due("a password with " + code, ferry.account('y', user), isSign(code));
        }
    }

    private static void dotsAreNoNames() {
        Client ferry = sentence("but is neither '.' nor '..'");
        dueAll(ferry, "USER", 501, ".", "..");
        dueAll(ferry, "USER", 331, "...", "......", ".a", "a.", "..a", "a..");
        dueAll(ferry, "PASS", 501, ".", "..");
        Checks.logIn(ferry, "u", "p");
        dueAll(ferry, "MKD", 550, ".", "..", "/.", "/..");
        dueAll(ferry, "MKD", 257, "...", "......", ".a", "a.", "..a", "a..");
        dueLine(ferry, "CWD .../../..a/.", 250);
        Checks.dueText(ferry, "PWD", 257, "/..a");
        ferry = new Client();
        due("user .", Checks.account(ferry, ".", "p"), false);
        due("user ..", Checks.account(ferry, "..", "p"), false);
        due("password .", Checks.account(ferry, "u", "."), false);
        due("password ..", Checks.account(ferry, "u", ".."), false);
        due("nodes()", ferry.nodes(), 0);
    }

    private static void nodesOfBothKinds() {
        Client ferry = sentence("NODES, at most 24, are DIRECTORIES and FILES");
        for (int i = 0; i < 12; i++) {
            dueLine(ferry, "MKD d" + i, 257);
        }
        for (int i = 0; i < 10; i++) {
            Checks.send(ferry, "STOR d" + i + "/f", "", 226);
        }
        due("nodes()", ferry.nodes(), 23);
        Checks.send(ferry, "APPE f", "", 226);
        due("nodes()", ferry.nodes(), 24);
        dueLine(ferry, "MKD x", 550);
        dueLine(ferry, "STOR x", 452);
        dueLine(ferry, "APPE d1/x", 452);
        due("nodes()", ferry.nodes(), 24);
        dueLine(ferry, "RNFR f", 350);
        dueLine(ferry, "RNTO d11/x", 250);
        due("nodes() behind RNTO", ferry.nodes(), 24);
        Checks.send(ferry, "STOR d0/f", "ab", 226);
        Checks.send(ferry, "APPE d0/f", "c", 226);
        Checks.fetch(ferry, "RETR d0/f", "abc");
        dueLine(ferry, "DELE d11/x", 250);
        dueLine(ferry, "MKD x", 257);
        dueLine(ferry, "MKD y", 550);
        due("nodes()", ferry.nodes(), 24);
    }

    private static void namesDifferInADirectory() {
        Client ferry = sentence("every node but a ROOT has a name and lies in a directory, in which all names differ");
        dueLine(ferry, "MKD a", 257);
        dueLine(ferry, "MKD a", 550);
        dueLine(ferry, "MKD a/a", 257);
        dueLine(ferry, "MKD a/a/a", 257);
        Checks.send(ferry, "STOR f", "1", 226);
        dueLine(ferry, "MKD f", 550);
        dueLine(ferry, "STOR a", 553);
        dueLine(ferry, "APPE a", 553);
        Checks.send(ferry, "STOR f", "2", 226);
        Checks.send(ferry, "STOR a/f", "3", 226);
        dueLine(ferry, "RNFR f", 350);
        dueLine(ferry, "RNTO a", 553);
        dueLine(ferry, "RNFR f", 350);
        dueLine(ferry, "RNTO a/f", 553);
        dueLine(ferry, "RNFR f", 350);
        dueLine(ferry, "RNTO f", 553);
        due("nodes()", ferry.nodes(), 6);
        Checks.fetch(ferry, "NLST", "a\r\nf\r\n");
        Checks.fetch(ferry, "NLST a", "a\r\nf\r\n");
        Checks.fetch(ferry, "RETR f", "2");
        Checks.fetch(ferry, "RETR a/f", "3");
    }

    private static void sizeOfFiles() {
        Client ferry = sentence("a file has up to 32 BYTES");
        Checks.send(ferry, "STOR none", "", 226);
        Checks.dueText(ferry, "SIZE none", 213, "0");
        Checks.fetch(ferry, "RETR none", "");
        Checks.send(ferry, "STOR most", FULL, 226);
        Checks.dueText(ferry, "SIZE most", 213, "32");
        Checks.fetch(ferry, "RETR most", FULL);
        Checks.send(ferry, "STOR above", FULL + "x", 452);
        dueLine(ferry, "SIZE above", 550);
        due("nodes()", ferry.nodes(), 3);
        due("bytes()", ferry.bytes(), 32);
    }

    private static void valuesOfBytes() {
        Client ferry = null;
        for (int value = 0; value < 256; value++) {
            if (value % 64 == 0) {
                ferry = sentence("BYTES (0 .. 255)");
                dueLine(ferry, "TYPE I", 200);
            }
            if (value % 32 == 0) {
                Checks.joined(ferry);
                dueLine(ferry, "STOR f", 150);
            }
            due("give(" + value + ")", ferry.give(value), true);
            if (value % 32 == 31) {
                due("end()", ferry.end(), 226);
                Checks.joined(ferry);
                dueLine(ferry, "RETR f", 150);
                for (int i = value - 31; i <= value; i++) {
                    due("take()", ferry.take(), i);
                }
                due("take() behind them", ferry.take(), -1);
            }
        }
    }

    private static void bytesOfAllFiles() {
        Client ferry = sentence("all files together up to 200");
        for (int i = 0; i < 6; i++) {
            Checks.send(ferry, "STOR f" + i, FULL, 226);
        }
        Checks.send(ferry, "STOR x", "123456789", 452);
        Checks.send(ferry, "STOR x", "12345678", 226);
        due("bytes()", ferry.bytes(), 200);
        Checks.send(ferry, "STOR y", "1", 452);
        Checks.send(ferry, "STOR y", "", 226);
        Checks.send(ferry, "APPE y", "1", 452);
        Checks.send(ferry, "STOR x", "123456789", 452);
        Checks.fetch(ferry, "RETR x", "12345678");
        Checks.send(ferry, "STOR x", "1234567", 226);
        Checks.send(ferry, "APPE y", "1", 226);
        due("bytes()", ferry.bytes(), 200);
    }

    private static void bytesOfAllAccounts() {
        Checks.topic("all files together, of all accounts");
        Client ferry = new Client();
        Checks.account(ferry, "u", "p");
        Checks.account(ferry, "v", "q");
        ferry.open();
        Checks.logIn(ferry, "u", "p");
        for (int i = 0; i < 6; i++) {
            Checks.send(ferry, "STOR f" + i, FULL, 226);
        }
        Checks.logIn(ferry, "v", "q");
        Checks.send(ferry, "STOR f0", "123456789", 452);
        due("nodes()", ferry.nodes(), 8);
        Checks.send(ferry, "STOR f0", "12345678", 226);
        due("bytes()", ferry.bytes(), 200);
        due("nodes()", ferry.nodes(), 9);
    }

    private static void fourAccounts() {
        Checks.topic("There are up to 4 ACCOUNTS, each with a USER and a PASSWORD");
        Client ferry = new Client();
        for (int i = 0; i < 4; i++) {
            due("account " + i, Checks.account(ferry, "u" + i, "p" + i / 2), true);
            due("nodes()", ferry.nodes(), i + 1);
        }
        due("account 4", Checks.account(ferry, "u4", "p4"), false);
        due("nodes()", ferry.nodes(), 4);
        ferry.open();
        for (int i = 0; i < 4; i++) {
            dueLine(ferry, "USER u" + i, 331);
            dueLine(ferry, "PASS p" + (1 - i / 2), 530);
            Checks.logIn(ferry, "u" + i, "p" + i / 2);
        }
        dueLine(ferry, "USER u4", 331);
        dueLine(ferry, "PASS p4", 530);
    }

    private static void rootsAreEmptyAtFirst() {
        Client ferry = sentence("and a root, a directory that is empty at first");
        Checks.fetch(ferry, "NLST /", "");
        dueLine(ferry, "MKD a", 257);
        dueLine(ferry, "MKD a/b", 257);
        Checks.send(ferry, "STOR f", "old", 226);
        dueLine(ferry, "RMD a/b", 250);
        dueLine(ferry, "RMD a", 250);
        dueLine(ferry, "DELE f", 250);
        dueLine(ferry, "QUIT", 221);
        for (String user : new String[] {"v", "w", "x"}) {
            due("account(" + user + ")", Checks.account(ferry, user, "p"), true);
        }
        due("bytes()", ferry.bytes(), 0);
        ferry.open();
        for (String user : new String[] {"v", "w", "x", "u"}) {
            Checks.logIn(ferry, user, "p");
            Checks.dueText(ferry, "PWD", 257, "/");
            Checks.fetch(ferry, "NLST", "");
            dueLine(ferry, "CWD a", 550);
            dueLine(ferry, "SIZE f", 550);
        }
    }

    private static void rootsAreApart() {
        Checks.topic("nobody comes out of the directory that is the own root");
        Client ferry = new Client();
        Checks.account(ferry, "u", "p");
        Checks.account(ferry, "v", "p");
        ferry.open();
        Checks.logIn(ferry, "u", "p");
        dueLine(ferry, "MKD mine", 257);
        Checks.send(ferry, "STOR f", "u", 226);
        Checks.logIn(ferry, "v", "p");
        dueAll(ferry, "CWD", 550, "mine", "/mine", "../mine", "/../mine", "../../u/mine", "/u");
        dueAll(ferry, "RETR", 550, "f", "../f", "/../../f");
        Checks.send(ferry, "STOR ../f", "v", 226);
        Checks.fetch(ferry, "RETR /f", "v");
        dueLine(ferry, "DELE f", 250);
        Checks.logIn(ferry, "u", "p");
        Checks.fetch(ferry, "RETR f", "u");
        Checks.fetch(ferry, "NLST ..", "f\r\nmine\r\n");
    }

    // Paths and places

    private static void pathsAsSaid() {
        Client ferry = sentence("perhaps '/', then any number of parts with '/' between them, then perhaps '/'");
        dueAll(ferry, "CWD", 250, "/", ".", "..", "./", "../", "/.", "/..", "/./", "./.", "../..", "/./../", "././");
        dueAll(ferry, "CWD", 550, "a", "/a", "a/", "/a/", "a/b", "/a/b/", "...", "-/-.-/0");
        dueAll(ferry, "CWD", 550, "a/b/c/d/e/f/g/h/i/j/k/l/m/n", "/a/b/c/d/e/f/g/h/i/j/k/l/m/");
        Checks.topic("(So it is neither empty nor has '//'.)");
        dueLine(ferry, "CWD ", 500);
        dueLine(ferry, "CWD", 501);
        dueAll(ferry, "CWD", 501, "//", "///", "//a", "a//", "a//b", "/a//", "//.", ".//", "..//", "./a//.");
    }

    private static void pathsFromRootAndCurrent() {
        Client ferry = sentence("It is GONE from the root, if it begins with '/', otherwise from the CURRENT directory");
        dueLine(ferry, "MKD a", 257);
        dueLine(ferry, "MKD a/a", 257);
        dueLine(ferry, "MKD a/a/in", 257);
        dueLine(ferry, "CWD a", 250);
        Checks.fetch(ferry, "NLST a", "in\r\n");
        Checks.fetch(ferry, "NLST /a", "a\r\n");
        Checks.fetch(ferry, "NLST .", "a\r\n");
        Checks.fetch(ferry, "NLST /", "a\r\n");
        dueLine(ferry, "CWD a/in", 250);
        dueLine(ferry, "CWD /a", 250);
        dueLine(ferry, "CWD /in", 550);
        dueLine(ferry, "CWD in", 550);
        Checks.dueText(ferry, "MKD x", 257, "/a/x");
        Checks.dueText(ferry, "MKD /x", 257, "/x");
    }

    private static void partsOfPaths() {
        Client ferry = sentence("'.' stays, '..' goes to the directory in which that is; a name goes to the node");
        dueLine(ferry, "MKD a", 257);
        dueLine(ferry, "MKD a/b", 257);
        dueLine(ferry, "MKD a/b/c", 257);
        dueLine(ferry, "CWD a/./b/././c/.", 250);
        Checks.dueText(ferry, "PWD", 257, "/a/b/c");
        dueLine(ferry, "CWD ../../b", 250);
        Checks.dueText(ferry, "PWD", 257, "/a/b");
        dueLine(ferry, "CWD c/..", 250);
        Checks.dueText(ferry, "PWD", 257, "/a/b");
        dueLine(ferry, "CWD c/../../", 250);
        Checks.dueText(ferry, "PWD", 257, "/a");
        dueLine(ferry, "CWD .", 250);
        Checks.dueText(ferry, "PWD", 257, "/a");
        dueLine(ferry, "CWD a", 550);
        Checks.dueText(ferry, "PWD", 257, "/a");
    }

    private static void aboveTheRoot() {
        Client ferry = sentence("from a root it stays");
        dueLine(ferry, "MKD a", 257);
        dueAll(ferry, "CWD", 250, "..", "../..", "/..", "/../../..", "../a/../../..", "../");
        Checks.dueText(ferry, "PWD", 257, "/");
        dueLine(ferry, "CDUP", 200);
        Checks.dueText(ferry, "PWD", 257, "/");
        dueLine(ferry, "CWD a/../../../a", 250);
        Checks.dueText(ferry, "PWD", 257, "/a");
        dueLine(ferry, "CWD ../../../../../..", 250);
        Checks.dueText(ferry, "PWD", 257, "/");
        Checks.dueText(ferry, "MKD ../../b", 257, "/b");
    }

    private static void goneFromAFile() {
        Client ferry = sentence("anything is gone from a file (also '.' and '..'; a '/' behind the last part counts as '.')");
        dueLine(ferry, "MKD a", 257);
        Checks.send(ferry, "STOR f", "1", 226);
        Checks.send(ferry, "STOR a/f", "22", 226);
        String[] paths = {"f/", "f/.", "f/..", "f/a", "f/f", "f/../f", "f/../a", "f/../a/f", "a/f/", "a/f/../f", "/f/"};
        dueAll(ferry, "CWD", 550, paths);
        dueAll(ferry, "SIZE", 550, paths);
        dueAll(ferry, "DELE", 550, paths);
        dueAll(ferry, "RMD", 550, paths);
        dueAll(ferry, "RNFR", 550, paths);
        dueAll(ferry, "MKD", 550, paths);
        dueAll(ferry, "RETR", 550, paths);
        dueAll(ferry, "NLST", 550, paths);
        dueAll(ferry, "STOR", 553, paths);
        dueAll(ferry, "APPE", 553, paths);
        dueLine(ferry, "SIZE f", 213);
        dueLine(ferry, "SIZE a/../f", 213);
        dueLine(ferry, "CWD a/", 250);
        dueLine(ferry, "SIZE ../a/f", 213);
    }

    private static void goneFromNothing() {
        Client ferry = sentence("or to nothing, if a name is not there");
        dueLine(ferry, "MKD a", 257);
        String[] paths = {"no", "no/", "no/.", "no/..", "no/../a", "a/no", "a/no/..", "/no/../a", "a/no/../../a", "a/a"};
        dueAll(ferry, "CWD", 550, paths);
        dueAll(ferry, "RMD", 550, paths);
        dueAll(ferry, "DELE", 550, paths);
        dueAll(ferry, "SIZE", 550, paths);
        dueAll(ferry, "RNFR", 550, paths);
        dueAll(ferry, "RETR", 550, paths);
        dueAll(ferry, "NLST", 550, paths);
        due("nodes()", ferry.nodes(), 2);
    }

    private static void places() {
        Client ferry = sentence("Its PLACE is a directory and a name");
        Checks.dueText(ferry, "MKD a", 257, "/a");
        Checks.dueText(ferry, "MKD /b", 257, "/b");
        Checks.dueText(ferry, "MKD ./c", 257, "/c");
        Checks.dueText(ferry, "MKD ../d", 257, "/d");
        Checks.dueText(ferry, "MKD a/e", 257, "/a/e");
        Checks.dueText(ferry, "MKD a/../b/./f", 257, "/b/f");
        Checks.dueText(ferry, "MKD a/e/../../g", 257, "/g");
        dueLine(ferry, "CWD a/e", 250);
        Checks.dueText(ferry, "MKD ../h", 257, "/a/h");
        Checks.send(ferry, "STOR ../h/f", "1", 226);
        dueLine(ferry, "RNFR ../h/f", 350);
        dueLine(ferry, "RNTO i", 250);
        Checks.dueText(ferry, "SIZE /a/e/i", 213, "1");
        Checks.fetch(ferry, "NLST ../h", "");
    }

    private static void noPlaces() {
        Client ferry = sentence("if its last part is a name without '/' behind it, and all before it leads to a directory");
        Checks.send(ferry, "STOR f", "1", 226);
        dueLine(ferry, "MKD a", 257);
        String[] paths = {"/", ".", "..", "x/", "a/x/", "a/x/.", "a/x/..", "x/.", "x/..", "x/y", "f/x", "f/../x", "a/x/y"};
        dueAll(ferry, "MKD", 550, paths);
        dueAll(ferry, "STOR", 553, paths);
        dueAll(ferry, "APPE", 553, paths);
        for (String path : paths) {
            dueLine(ferry, "RNFR f", 350);
            dueLine(ferry, "RNTO " + path, 553);
        }
        due("nodes()", ferry.nodes(), 3);
        Checks.fetch(ferry, "NLST", "a\r\nf\r\n");
    }

    // Lines

    private static void lettersOfCommands() {
        Client ferry = sentence("A COMMAND of letters (A is the same as a)");
        for (int small = 0; small < 16; small++) {
            StringBuilder command = new StringBuilder("NOOP");
            for (int i = 0; i < 4; i++) {
                if ((small >> i & 1) == 1) {
                    command.setCharAt(i, Character.toLowerCase(command.charAt(i)));
                }
            }
            dueLine(ferry, command.toString(), 200);
        }
        for (int code = 32; code <= 126; code++) {
            char c = (char) code;
            dueLine(ferry, c + "WD", c == 'p' || c == 'P' ? 257 : c == 'c' || c == 'C' ? 501 : 500);
        }
        dueLine(ferry, "user U", 501);
        dueLine(ferry, "mkd A", 501);
        dueLine(ferry, "type i", 200);
    }

    private static void spaceAndArgument() {
        Client ferry = sentence("perhaps one space and behind that an ARGUMENT, all the rest, which is not empty");
        dueLine(ferry, "CWD .", 250);
        dueLine(ferry, "CWD  .", 501);
        dueLine(ferry, "CWD . ", 501);
        dueLine(ferry, "CWD . .", 501);
        dueLine(ferry, "CWD  ", 501);
        dueLine(ferry, "CWD ", 500);
        dueLine(ferry, " CWD .", 500);
        dueLine(ferry, "CWD.", 500);
        dueLine(ferry, "CWD\u007e.", 500);
        dueLine(ferry, "TYPE  A", 504);
        dueLine(ferry, "TYPE A ", 504);
        dueLine(ferry, "TYPE  ", 504);
        dueLine(ferry, "TYPE ", 500);
        dueLine(ferry, "NOOP  ", 501);
        dueLine(ferry, "NOOP ", 500);
        dueLine(ferry, "NLST  ", 501);
        dueLine(ferry, "NLST ", 500);
        dueLine(ferry, "NLST", 425);
    }

    private static void openedAgain() {
        Client ferry = sentence("when it is opened, nobody is LOGGED IN, the type is ASCII, there is no data connection");
        Checks.send(ferry, "STOR f", "\n", 226);
        dueLine(ferry, "MKD a", 257);
        dueLine(ferry, "CWD a", 250);
        dueLine(ferry, "TYPE I", 200);
        Checks.joined(ferry);
        dueLine(ferry, "QUIT", 221);
        due("open()", ferry.open(), true);
        dueLine(ferry, "PWD", 530);
        dueLine(ferry, "PASS p", 503);
        Checks.logIn(ferry, "u", "p");
        Checks.dueText(ferry, "PWD", 257, "/");
        dueLine(ferry, "NLST", 425);
        dueLine(ferry, "REST 0", 504);
        Checks.fetch(ferry, "RETR f", "\r\n");
        Checks.send(ferry, "STOR f", "\r\n", 226);
        Checks.dueText(ferry, "SIZE f", 213, "1");
    }

    private static void openedAgainForgets() {
        Client ferry = sentence("no restart, nothing to be renamed, no user named");
        Checks.send(ferry, "STOR f", "abc", 226);
        dueLine(ferry, "USER u", 331);
        dueLine(ferry, "QUIT", 221);
        ferry.open();
        dueLine(ferry, "PASS p", 503);
        Checks.logIn(ferry, "u", "p");
        dueLine(ferry, "RNFR f", 350);
        dueLine(ferry, "QUIT", 221);
        ferry.open();
        dueLine(ferry, "RNTO g", 530);
        Checks.logIn(ferry, "u", "p");
        dueLine(ferry, "RNTO g", 503);
        dueLine(ferry, "TYPE I", 200);
        dueLine(ferry, "REST 1", 350);
        dueLine(ferry, "QUIT", 221);
        ferry.open();
        Checks.logIn(ferry, "u", "p");
        Checks.fetch(ferry, "RETR f", "abc");
    }

    // To enter a line

    private static void linesNotAsSaid() {
        Client ferry = sentence("500 if the line is not as said (empty, or a space with nothing behind it, too)");
        for (String line : new String[] {"", " ", "  ", " NOOP", "  NOOP", " a", "NOOP ", "PWD ", "USER ", "nlst "}) {
            dueLine(ferry, line, 500);
        }
        dueLine(ferry, "NOOP1", 500);
        dueLine(ferry, "NOOP.", 500);
        dueLine(ferry, "NO-OP", 500);
        dueLine(ferry, "N00P", 500);
        dueLine(ferry, "/PWD", 500);
        due("enter() of nothing typed", ferry.enter(), 500);
        dueLine(ferry, "PWD", 257);
    }

    private static void unknownCommands() {
        Client ferry = sentence("500 if the command is none of those below");
        String[] others = {
            "LIST", "SYST", "HELP", "STAT", "MODE S", "STRU F", "ALLO 1", "ACCT a", "REIN", "SITE x", "XPWD", "XMKD a",
            "STOU", "EPSV", "FEAT", "RETRA a", "RET a", "P", "PW", "PWDD", "USERS u", "PASSV", "PAS p", "CDUPS", "CW",
            "NOOPNOOP", "MKDIR a", "abcdefghijklmnopqrstuvwxyzabcdef", "A a",
        };
        for (String line : others) {
            dueLine(ferry, line, 500);
        }
        due("nodes()", ferry.nodes(), 1);
    }

    private static void argumentsMissing() {
        Client ferry = sentence("501 if it has no argument but needs one");
        String[] needing = {
            "USER", "PASS", "CWD", "MKD", "RMD", "DELE", "SIZE", "RNFR", "RNTO", "TYPE", "REST", "PORT", "RETR",
            "STOR", "APPE",
        };
        for (String command : needing) {
            dueLine(ferry, command, 501);
            dueLine(ferry, command.toLowerCase(), 501);
        }
        dueLine(ferry, "NLST", 425);
        dueLine(ferry, "PWD", 257);
    }

    private static void argumentsTooMany() {
        Client ferry = sentence("501 if it has an argument but needs none");
        for (String command : new String[] {"QUIT", "NOOP", "PWD", "CDUP", "PASV", "ABOR"}) {
            dueLine(ferry, command + " a", 501);
            dueLine(ferry, command + " .", 501);
            dueLine(ferry, command + "  ", 501);
        }
        due("no way by PASV with an argument", ferry.join(), false);
        dueLine(ferry, "NLST .", 425);
        dueLine(ferry, "PWD", 257);
    }

    private static void nobodyLoggedIn() {
        Checks.topic("530 if nobody is logged in and the command is none of USER, PASS, QUIT, NOOP");
        Client ferry = new Client();
        Checks.account(ferry, "u", "p");
        ferry.open();
        String[] refused = {
            "PWD", "CWD /", "CDUP", "MKD a", "RMD a", "DELE a", "SIZE a", "RNFR a", "RNTO a", "TYPE I", "TYPE X",
            "REST 1", "PASV", "PORT 1,1,1,1,0,9", "ABOR", "RETR a", "STOR a", "APPE a", "NLST", "NLST a",
        };
        for (String line : refused) {
            dueLine(ferry, line, 530);
        }
        due("no way by PASV", ferry.join(), false);
        due("nodes()", ferry.nodes(), 1);
        dueLine(ferry, "NOOP", 200);
        dueLine(ferry, "PASS p", 503);
        dueLine(ferry, "USER u", 331);
        dueLine(ferry, "PWD", 530);
        Checks.logIn(ferry, "u", "p");
        ferry.listen(9);
        dueLine(ferry, "NLST", 425);
        dueLine(ferry, "REST 0", 504);
        dueLine(ferry, "QUIT", 221);
        ferry.open();
        dueLine(ferry, "QUIT", 221);
    }

    private static void duringTransfers() {
        for (String begin : new String[] {"STOR g", "APPE f", "RETR f", "NLST"}) {
            Client ferry = sentence("503 if there is a transfer, unless it is ABOR, QUIT or NOOP");
            Checks.send(ferry, "STOR f", "abc", 226);
            Checks.joined(ferry);
            dueLine(ferry, begin, 150);
            String[] refused = {
                "USER u", "PASS p", "PWD", "CWD /", "CDUP", "MKD a", "RMD a", "DELE f", "SIZE f", "RNFR f", "RNTO a",
                "TYPE I", "TYPE X", "REST 1", "PASV", "PORT 1,1,1,1,0,9", "RETR f", "STOR f", "APPE f", "NLST",
            };
            for (String line : refused) {
                dueLine(ferry, line, 503);
            }
            dueLine(ferry, "NOOP", 200);
            due("transfer()", ferry.transfer(), begin.equals("STOR g") || begin.equals("APPE f") ? 2 : 1);
            dueLine(ferry, "ABOR", 426);
            due("transfer()", ferry.transfer(), 0);
            Checks.dueText(ferry, "PWD", 257, "/");
            Checks.joined(ferry);
            dueLine(ferry, begin, 150);
            dueLine(ferry, "QUIT", 221);
            due("transfer()", ferry.transfer(), 0);
        }
    }

    private static void argumentBeforeLogin() {
        Checks.topic("501 comes before 530, 500 before 501");
        Client ferry = new Client();
        ferry.open();
        dueLine(ferry, "CWD //", 501);
        dueLine(ferry, "CWD", 501);
        dueLine(ferry, "PWD a", 501);
        dueLine(ferry, "REST a", 501);
        dueLine(ferry, "PORT 1", 501);
        dueLine(ferry, "PASS .", 501);
        dueLine(ferry, "CWD ", 500);
        dueLine(ferry, "PWD ", 500);
        dueLine(ferry, "XXX  ", 500);
        dueLine(ferry, "CWD /", 530);
    }

    private static void loginBeforeTransfer() {
        Client ferry = sentence("500 and 501 come before 503");
        Checks.joined(ferry);
        dueLine(ferry, "NLST", 150);
        dueLine(ferry, "", 500);
        dueLine(ferry, "XXX", 500);
        dueLine(ferry, "PWD ", 500);
        dueLine(ferry, "PWD a", 501);
        dueLine(ferry, "RETR", 501);
        dueLine(ferry, "ABOR a", 501);
        dueLine(ferry, "QUIT a", 501);
        dueLine(ferry, "NOOP a", 501);
        dueLine(ferry, "PWD", 503);
        due("transfer()", ferry.transfer(), 1);
    }

    // Only for the very next line

    /** Lines of every kind of answer, none of which is a PASS, an RNTO or a RETR that would use something. */
    private static final String[] BETWEEN = {
        "", " ", "XXX", "PWD ", "PWD a", "CWD", "CWD //", "NOOP", "PWD", "CWD /", "CWD no", "TYPE X", "SIZE f", "ABOR",
        "STOR no/no",
    };

    private static void restartForOneLine() {
        Client ferry = null;
        for (int i = 0; i < BETWEEN.length; i++) {
            if (i % 5 == 0) {
                ferry = sentence("A restart is only there for the very next line, whatever it is and answers");
                Checks.send(ferry, "STOR f", "abc", 226);
                dueLine(ferry, "TYPE I", 200);
            }
            Checks.joined(ferry);
            dueLine(ferry, "REST 1", 350);
            Checks.say(ferry, BETWEEN[i]);
            dueLine(ferry, "RETR f", 150);
            Checks.dueGiven(ferry, "RETR f behind '" + BETWEEN[i] + "'", "abc");
        }
        Checks.joined(ferry);
        dueLine(ferry, "REST 1", 350);
        dueLine(ferry, "RETR no", 550);
        dueLine(ferry, "RETR f", 150);
        Checks.dueGiven(ferry, "RETR f behind a refused one", "abc");
        dueLine(ferry, "REST 1", 350);
        dueLine(ferry, "RETR f", 425);
        Checks.fetch(ferry, "RETR f", "abc");
        Checks.joined(ferry);
        dueLine(ferry, "REST 1", 350);
        due("reply() is no line", ferry.reply(), 350);
        due("listen() is no line", ferry.listen(7), true);
        due("take() is no line", ferry.take(), -1);
        dueLine(ferry, "RETR f", 150);
        Checks.dueGiven(ferry, "RETR f", "bc");
    }

    private static void userForOneLine() {
        Client ferry = sentence("a user named is only there for the very next line");
        for (String between : BETWEEN) {
            dueLine(ferry, "USER u", 331);
            Checks.say(ferry, between);
            dueLine(ferry, "PASS p", 503);
        }
        dueLine(ferry, "USER u", 331);
        dueLine(ferry, "PASS x", 530);
        dueLine(ferry, "PASS p", 503);
        dueLine(ferry, "USER u", 331);
        dueLine(ferry, "PASS P", 501);
        dueLine(ferry, "PASS p", 503);
        dueLine(ferry, "USER u", 331);
        dueLine(ferry, "USER .", 501);
        dueLine(ferry, "PASS p", 503);
        dueLine(ferry, "USER u", 331);
        due("join() is no line", ferry.join(), false);
        due("open() is no line", ferry.open(), false);
        dueLine(ferry, "PASS p", 230);
        dueLine(ferry, "PASS p", 503);
        dueLine(ferry, "PWD", 257);
    }

    private static void renamedForOneLine() {
        Client ferry = sentence("something to be renamed is only there for the very next line");
        dueLine(ferry, "MKD f", 257);
        for (String between : BETWEEN) {
            dueLine(ferry, "RNFR f", 350);
            Checks.say(ferry, between);
            dueLine(ferry, "RNTO g", 503);
        }
        dueLine(ferry, "RNFR f", 350);
        dueLine(ferry, "RNTO f", 553);
        dueLine(ferry, "RNTO g", 503);
        dueLine(ferry, "RNFR f", 350);
        dueLine(ferry, "RNTO //", 501);
        dueLine(ferry, "RNTO g", 503);
        dueLine(ferry, "RNFR f", 350);
        dueLine(ferry, "RNFR no", 550);
        dueLine(ferry, "RNTO g", 503);
        dueLine(ferry, "RNFR f", 350);
        due("nodes() is no line", ferry.nodes(), 2);
        dueLine(ferry, "RNTO g", 250);
        dueLine(ferry, "RNTO h", 503);
    }
}
