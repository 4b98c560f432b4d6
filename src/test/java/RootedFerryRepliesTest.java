/**
 * The sentences that tell what each command answers, and how transfers end, in the document's order.
 * Each that names a boundary case has a test of its own, which begins with the sentence.
 */
public final class RootedFerryRepliesTest {
    private static final String FULL = "01234567890123456789012345678901";

    public static void main(String[] args) {
        userLogsOut();
        passWithoutUser();
        passOfBoth();
        passOfNone();
        quit();
        quitInTransfers();
        noop();
        pwd();
        cwd();
        cdup();
        mkdOfNoPlace();
        mkdAtTheLimit();
        mkdText();
        rmd();
        rmdOfRootAndCurrent();
        dele();
        size();
        rnfr();
        rntoWithoutOne();
        rntoElsewhere();
        rntoRefused();
        rntoIntoItself();
        rntoOfCurrent();
        typeLetters();
        restOfDigits();
        restInAscii();
        pasv();
        portNumbers();
        portOfNumbers();
        aborWithoutTransfer();
        aborInTransfers();
        transferRefused();
        retrRestart();
        nlstPath();
        storAndAppePlaces();
        fullBeforeWay();
        wayNotReady();
        wayAfterRefusals();
        retrAsThen();
        retrInAscii();
        nlstOrder();
        givingEnds();
        returnsLeftOut();
        appendStandsBefore();
        moreThan32();
        moreThan200();
        wayAfterTransfers();
        Checks.finish();
    }

    private static Client sentence(String words) {
        Checks.topic(words);
        return Checks.loggedIn();
    }

    private static void dueLine(Client ferry, String line, int want) {
        Checks.dueLine(ferry, line, want);
    }

    private static void dueAll(Client ferry, String command, int want, String... arguments) {
        for (String argument : arguments) {
            dueLine(ferry, command + " " + argument, want);
        }
    }

    private static void due(String what, long got, long want) {
        Checks.due(what, got, want);
    }

    private static void due(String what, boolean got, boolean want) {
        Checks.due(what, got, want);
    }

    // Logging in and out

    private static void userLogsOut() {
        Client ferry = sentence("USER name: nobody is logged in from then on, the user is named; 331.");
        dueLine(ferry, "USER nobody", 331);
        dueLine(ferry, "PWD", 530);
        dueLine(ferry, "MKD a", 530);
        Checks.logIn(ferry, "u", "p");
        dueLine(ferry, "USER U", 501);
        dueLine(ferry, "PWD", 257);
        dueLine(ferry, "USER u", 331);
        dueLine(ferry, "NOOP", 200);
        dueLine(ferry, "PWD", 530);
        Checks.logIn(ferry, "u", "p");
        dueLine(ferry, "TYPE I", 200);
        Checks.joined(ferry);
        Checks.logIn(ferry, "u", "p");
        dueLine(ferry, "REST 0", 350);
        dueLine(ferry, "NLST", 150);
    }

    private static void passWithoutUser() {
        Client ferry = sentence("PASS name: 503 if no user is named");
        dueLine(ferry, "PASS p", 503);
        Checks.dueText(ferry, "PWD", 257, "/");
        dueLine(ferry, "USER .", 501);
        dueLine(ferry, "PASS p", 503);
        dueLine(ferry, "PWD", 257);
        ferry = new Client();
        ferry.open();
        dueLine(ferry, "PASS p", 503);
        dueLine(ferry, "PASS .", 501);
        dueLine(ferry, "PASS p", 503);
    }

    private static void passOfBoth() {
        Checks.topic("if there is an account with both, it is logged in, its root is current, and the answer is 230");
        Client ferry = new Client();
        Checks.account(ferry, "u", "p");
        Checks.account(ferry, "p", "u");
        Checks.account(ferry, "abcdef", "ghijkl");
        ferry.open();
        Checks.logIn(ferry, "u", "p");
        dueLine(ferry, "MKD a", 257);
        dueLine(ferry, "CWD a", 250);
        Checks.logIn(ferry, "u", "p");
        Checks.dueText(ferry, "PWD", 257, "/");
        dueLine(ferry, "CWD a", 250);
        Checks.logIn(ferry, "p", "u");
        Checks.dueText(ferry, "PWD", 257, "/");
        dueLine(ferry, "CWD a", 550);
        Checks.logIn(ferry, "abcdef", "ghijkl");
        Checks.fetch(ferry, "NLST", "");
    }

    private static void passOfNone() {
        Checks.topic("if there is none, 530, and nobody is logged in");
        Client ferry = new Client();
        Checks.account(ferry, "u", "p");
        Checks.account(ferry, "v", "pp");
        ferry.open();
        String[] users = {"u", "u", "u", "v", "v", "p", "uu", "w"};
        String[] passwords = {"pp", "u", "p.", "p", "ppp", "u", "p", "p"};
        for (int i = 0; i < users.length; i++) {
            dueLine(ferry, "USER " + users[i], 331);
            dueLine(ferry, "PASS " + passwords[i], 530);
            dueLine(ferry, "PWD", 530);
            dueLine(ferry, "PASS p", 503);
        }
        Checks.logIn(ferry, "v", "pp");
        dueLine(ferry, "USER v", 331);
        dueLine(ferry, "PASS p", 530);
        dueLine(ferry, "PWD", 530);
    }

    private static void quit() {
        Client ferry = sentence("QUIT: the control connection is closed, the way is NONE; 221.");
        dueLine(ferry, "PASV", 227);
        dueLine(ferry, "QUIT", 221);
        due("join()", ferry.join(), false);
        due("a line behind QUIT", Checks.say(ferry, "NOOP"), -1);
        due("reply()", ferry.reply(), 221);
        due("an account, as it is closed", Checks.account(ferry, "v", "q"), true);
        due("open()", ferry.open(), true);
        dueLine(ferry, "QUIT", 221);
        due("open() once more", ferry.open(), true);
        Checks.logIn(ferry, "v", "q");
    }

    private static void quitInTransfers() {
        Client ferry = sentence("a transfer and its data are dropped");
        Checks.send(ferry, "STOR f", "abc", 226);
        for (String begin : new String[] {"STOR f", "APPE f", "STOR g", "RETR f", "NLST"}) {
            Checks.joined(ferry);
            dueLine(ferry, begin, 150);
            ferry.give('x');
            dueLine(ferry, "QUIT", 221);
            due("transfer()", ferry.transfer(), 0);
            due("give()", ferry.give('y'), false);
            due("end()", ferry.end(), -1);
            due("take()", ferry.take(), -1);
            due("join()", ferry.join(), false);
            due("reply()", ferry.reply(), 221);
            due("nodes()", ferry.nodes(), 2);
            due("bytes()", ferry.bytes(), 3);
            ferry.open();
            Checks.logIn(ferry, "u", "p");
            dueLine(ferry, "NLST", 425);
            Checks.fetch(ferry, "RETR f", "abc");
        }
        Checks.send(ferry, "STOR g", "", 226);
        Checks.dueText(ferry, "SIZE g", 213, "0");
    }

    private static void noop() {
        Client ferry = new Client();
        Checks.topic("NOOP: 200.");
        due("closed", Checks.say(ferry, "NOOP"), -1);
        ferry.open();
        dueLine(ferry, "NOOP", 200);
    }

    // Directories and files

    private static void pwd() {
        Client ferry = sentence("PWD: the names from the root down, each with '/' before it ('/' alone for the root)");
        Checks.dueText(ferry, "PWD", 257, "/");
        StringBuilder down = new StringBuilder();
        for (int i = 0; i < 23; i++) {
            String name = i % 2 == 0 ? "abcd" + (10 + i) : "z";
            dueLine(ferry, "MKD " + name, 257);
            dueLine(ferry, "CWD " + name, 250);
            down.append('/').append(name);
        }
        due("nodes()", ferry.nodes(), 24);
        Checks.dueText(ferry, "PWD", 257, down.toString());
        dueLine(ferry, "CWD /", 250);
        Checks.dueText(ferry, "PWD", 257, "/");
    }

    private static void cwd() {
        Client ferry = sentence("CWD path: 250, and what it leads to is current; 550 if that is no directory.");
        dueLine(ferry, "MKD a", 257);
        Checks.send(ferry, "STOR f", "", 226);
        dueAll(ferry, "CWD", 550, "f", "no", "f/", "a/no", "a/../f");
        Checks.dueText(ferry, "PWD", 257, "/");
        dueLine(ferry, "CWD a/", 250);
        Checks.dueText(ferry, "PWD", 257, "/a");
        dueAll(ferry, "CWD", 550, "../f", "a", "/no");
        Checks.dueText(ferry, "PWD", 257, "/a");
        dueLine(ferry, "CWD .", 250);
        Checks.dueText(ferry, "PWD", 257, "/a");
    }

    private static void cdup() {
        Client ferry = sentence("CDUP: likewise with '..'; 200.");
        dueLine(ferry, "CDUP", 200);
        dueLine(ferry, "MKD a", 257);
        dueLine(ferry, "MKD a/b", 257);
        dueLine(ferry, "CWD a/b", 250);
        dueLine(ferry, "CDUP", 200);
        Checks.dueText(ferry, "PWD", 257, "/a");
        dueLine(ferry, "cdup", 200);
        Checks.dueText(ferry, "PWD", 257, "/");
        dueLine(ferry, "CDUP", 200);
        Checks.dueText(ferry, "PWD", 257, "/");
        dueLine(ferry, "CDUP .", 501);
    }

    private static void mkdOfNoPlace() {
        Client ferry = sentence("MKD: 550 if there is no place, or something is there already");
        Checks.send(ferry, "STOR f", "1", 226);
        dueLine(ferry, "MKD a", 257);
        dueAll(ferry, "MKD", 550, "/", ".", "..", "b/", "b/.", "no/b", "f/b", "f/", "a/b/");
        dueAll(ferry, "MKD", 550, "a", "./a", "/a", "f", "a/../f");
        due("nodes()", ferry.nodes(), 3);
        Checks.fetch(ferry, "RETR f", "1");
        Checks.dueText(ferry, "MKD a/f", 257, "/a/f");
    }

    private static void mkdAtTheLimit() {
        Client ferry = sentence("MKD: 550 if there are 24 nodes");
        for (int i = 1; i < 24; i++) {
            due("nodes()", ferry.nodes(), i);
            dueLine(ferry, "MKD d" + i, 257);
        }
        dueLine(ferry, "MKD d24", 550);
        dueLine(ferry, "MKD d1/d", 550);
        due("nodes()", ferry.nodes(), 24);
        dueLine(ferry, "RMD d7", 250);
        Checks.dueText(ferry, "MKD d1/d", 257, "/d1/d");
        dueLine(ferry, "MKD d7", 550);
        dueLine(ferry, "CWD d7", 550);
        dueLine(ferry, "CWD d1/d", 250);
    }

    private static void mkdText() {
        Client ferry = sentence("MKD: the text being that of PWD if it were current");
        Checks.dueText(ferry, "MKD a", 257, "/a");
        Checks.dueText(ferry, "PWD", 257, "/");
        Checks.dueText(ferry, "MKD a/b", 257, "/a/b");
        dueLine(ferry, "CWD a/b", 250);
        Checks.dueText(ferry, "MKD ../abcdef", 257, "/a/abcdef");
        Checks.dueText(ferry, "MKD /a/../x", 257, "/x");
        Checks.dueText(ferry, "MKD x", 257, "/a/b/x");
        Checks.dueText(ferry, "PWD", 257, "/a/b");
        Checks.dueText(ferry, "MKD x", 550, "");
    }

    private static void rmd() {
        Client ferry = sentence("RMD: 550 unless it leads to a directory that is empty");
        dueLine(ferry, "MKD a", 257);
        dueLine(ferry, "MKD a/b", 257);
        dueLine(ferry, "MKD c", 257);
        Checks.send(ferry, "STOR c/f", "", 226);
        dueAll(ferry, "RMD", 550, "a", "c", "c/f", "no", "a/no", "c/f/", "./a/", "no/..");
        due("nodes()", ferry.nodes(), 5);
        dueLine(ferry, "RMD a/b", 250);
        dueLine(ferry, "RMD a/b", 550);
        dueLine(ferry, "RMD a/.", 250);
        dueLine(ferry, "DELE c/f", 250);
        dueLine(ferry, "RMD c/", 250);
        due("nodes()", ferry.nodes(), 1);
        Checks.fetch(ferry, "NLST", "");
    }

    private static void rmdOfRootAndCurrent() {
        Client ferry = sentence("RMD: not the root, and not current");
        dueAll(ferry, "RMD", 550, "/", ".", "..", "./", "/..");
        dueLine(ferry, "MKD a", 257);
        dueLine(ferry, "MKD a/b", 257);
        dueLine(ferry, "CWD a/b", 250);
        dueAll(ferry, "RMD", 550, ".", "/a/b", "../b", "./", "..", "/a", "/");
        Checks.dueText(ferry, "PWD", 257, "/a/b");
        dueLine(ferry, "CDUP", 200);
        dueLine(ferry, "RMD b", 250);
        dueLine(ferry, "RMD .", 550);
        dueLine(ferry, "CDUP", 200);
        dueLine(ferry, "RMD a", 250);
        dueLine(ferry, "RMD /", 550);
        due("nodes()", ferry.nodes(), 1);
    }

    private static void dele() {
        Client ferry = sentence("DELE: 550 unless it leads to a file");
        dueLine(ferry, "MKD a", 257);
        Checks.send(ferry, "STOR a/f", "123", 226);
        Checks.send(ferry, "STOR f", "", 226);
        dueAll(ferry, "DELE", 550, "a", "/", ".", "..", "no", "a/no", "f/", "f/.", "a/");
        due("nodes()", ferry.nodes(), 4);
        due("bytes()", ferry.bytes(), 3);
        dueLine(ferry, "DELE a/f", 250);
        due("bytes()", ferry.bytes(), 0);
        dueLine(ferry, "DELE a/f", 550);
        dueLine(ferry, "DELE f", 250);
        due("nodes()", ferry.nodes(), 2);
        Checks.send(ferry, "APPE f", "x", 226);
        Checks.fetch(ferry, "RETR f", "x");
    }

    private static void size() {
        for (int count = 0; count <= 32; count++) {
            Client ferry = sentence("SIZE: how many bytes the file has, as a decimal number; 550 unless it leads to a file");
            Checks.send(ferry, "STOR f", "\n".repeat(count), 226);
            Checks.dueText(ferry, "SIZE f", 213, String.valueOf(count));
            dueLine(ferry, "TYPE I", 200);
            Checks.dueText(ferry, "SIZE ./f", 213, String.valueOf(count));
            for (String path : new String[] {"/", ".", "no", "f/", "f/."}) {
                Checks.dueText(ferry, "SIZE " + path, 550, "");
            }
        }
    }

    private static void rnfr() {
        Client ferry = sentence("RNFR: 550 if it leads to nothing, or to the root");
        dueLine(ferry, "MKD a", 257);
        Checks.send(ferry, "STOR f", "", 226);
        for (String path : new String[] {"no", "f/", "f/..", "a/no", "/", ".", "..", "a/..", "/.."}) {
            dueLine(ferry, "RNFR " + path, 550);
            dueLine(ferry, "RNTO x", 503);
        }
        dueAll(ferry, "RNFR", 350, "a", "a/", "a/.", "f", "a/../f", "/a");
        dueLine(ferry, "CWD a", 250);
        dueAll(ferry, "RNFR", 350, ".", "../a", "../f");
        dueAll(ferry, "RNFR", 550, "..", "a");
        Checks.fetch(ferry, "NLST /", "a\r\nf\r\n");
    }

    private static void rntoWithoutOne() {
        Client ferry = sentence("RNTO: 503 if there is nothing to be renamed");
        dueLine(ferry, "RNTO a", 503);
        dueLine(ferry, "RNTO no/a", 503);
        dueLine(ferry, "RNTO /", 503);
        dueLine(ferry, "RNTO //", 501);
        dueLine(ferry, "MKD a", 257);
        dueLine(ferry, "RNFR no", 550);
        dueLine(ferry, "RNTO b", 503);
        dueLine(ferry, "RNFR a", 350);
        dueLine(ferry, "RNTO b", 250);
        dueLine(ferry, "RNTO c", 503);
        Checks.fetch(ferry, "NLST", "b\r\n");
    }

    private static void rntoElsewhere() {
        Client ferry = sentence("RNTO: it lies at the place, under the name of that, from now on");
        dueLine(ferry, "MKD a", 257);
        dueLine(ferry, "MKD a/in", 257);
        dueLine(ferry, "MKD b", 257);
        Checks.send(ferry, "STOR a/in/f", "xyz", 226);
        dueLine(ferry, "RNFR a/in", 350);
        dueLine(ferry, "RNTO b/abcdef", 250);
        Checks.fetch(ferry, "NLST a", "");
        Checks.fetch(ferry, "NLST b", "abcdef\r\n");
        dueLine(ferry, "RNFR b/abcdef/f", 350);
        dueLine(ferry, "RNTO g", 250);
        Checks.fetch(ferry, "RETR g", "xyz");
        dueLine(ferry, "RETR b/abcdef/f", 550);
        dueLine(ferry, "RNFR b", 350);
        dueLine(ferry, "RNTO a/b", 250);
        dueLine(ferry, "CWD a/b/abcdef", 250);
        Checks.dueText(ferry, "PWD", 257, "/a/b/abcdef");
        dueLine(ferry, "RNFR .", 350);
        dueLine(ferry, "RNTO /c", 250);
        Checks.dueText(ferry, "PWD", 257, "/c");
        dueLine(ferry, "CDUP", 200);
        Checks.fetch(ferry, "NLST", "a\r\nc\r\ng\r\n");
        due("nodes()", ferry.nodes(), 5);
        due("bytes()", ferry.bytes(), 3);
    }

    private static void rntoRefused() {
        Client ferry = sentence("RNTO: 553 if there is no place, or something is there already");
        dueLine(ferry, "MKD a", 257);
        dueLine(ferry, "MKD b", 257);
        Checks.send(ferry, "STOR f", "1", 226);
        for (String from : new String[] {"f", "b"}) {
            for (String to : new String[] {"a", "b", "f", "./f", "/", "..", "x/", "x/.", "no/x", "f/x", "a/x/", "a/.."}) {
                dueLine(ferry, "RNFR " + from, 350);
                dueLine(ferry, "RNTO " + to, 553);
            }
        }
        Checks.fetch(ferry, "NLST", "a\r\nb\r\nf\r\n");
        Checks.fetch(ferry, "NLST a", "");
        Checks.fetch(ferry, "NLST b", "");
    }

    private static void rntoIntoItself() {
        Client ferry = sentence("RNTO: and the place's directory is that one or lies, at any depth, in it");
        dueLine(ferry, "MKD top", 257);
        dueLine(ferry, "CWD top", 250);
        dueLine(ferry, "RNFR .", 350);
        dueLine(ferry, "RNTO x", 553);
        for (int i = 0; i < 22; i++) {
            dueLine(ferry, "MKD d", 257);
            dueLine(ferry, "CWD d", 250);
            dueLine(ferry, "RNFR /top", 350);
            dueLine(ferry, "RNTO x", 553);
        }
        due("nodes()", ferry.nodes(), 24);
        dueLine(ferry, "RNFR .", 350);
        dueLine(ferry, "RNTO ../x", 250);
        dueLine(ferry, "RNFR ..", 350);
        dueLine(ferry, "RNTO /x", 250);
        Checks.dueText(ferry, "PWD", 257, "/x/x");
        dueLine(ferry, "RNFR /x", 350);
        dueLine(ferry, "RNTO /top/x", 250);
        Checks.dueText(ferry, "PWD", 257, "/top/x/x");
    }

    private static void rntoOfCurrent() {
        Client ferry = sentence("RNTO: a directory and what lies in it, the current one too");
        dueLine(ferry, "MKD a", 257);
        dueLine(ferry, "MKD a/b", 257);
        dueLine(ferry, "MKD c", 257);
        dueLine(ferry, "CWD a/b", 250);
        dueLine(ferry, "RNFR /a", 350);
        dueLine(ferry, "RNTO /c/a", 250);
        Checks.dueText(ferry, "PWD", 257, "/c/a/b");
        dueLine(ferry, "RNFR .", 350);
        dueLine(ferry, "RNTO ../n", 250);
        Checks.dueText(ferry, "PWD", 257, "/c/a/n");
        dueLine(ferry, "RMD ../n", 550);
        dueLine(ferry, "CWD /c/a", 250);
        dueLine(ferry, "RMD n", 250);
    }

    // The type, the restart, the way for data

    private static void typeLetters() {
        Client ferry = sentence("TYPE x: 200 for A and I (capital or small); 504 for other arguments.");
        for (int code = 33; code <= 126; code++) {
            char c = (char) code;
            dueLine(ferry, "TYPE " + c, c == 'A' || c == 'a' || c == 'I' || c == 'i' ? 200 : 504);
        }
        dueAll(ferry, "TYPE", 504, " ", "AA", "II", "AI", "A ", " A", "I 8", "aN", "ASCII", "IMAGE");
        dueLine(ferry, "REST 0", 350);
        dueLine(ferry, "TYPE A", 200);
        dueAll(ferry, "TYPE", 504, "II", " I", "I ", "iI");
        dueLine(ferry, "REST 0", 504);
    }

    private static void restOfDigits() {
        Client ferry = sentence("REST n (a decimal number of 1 to 3 digits): 350");
        dueLine(ferry, "TYPE I", 200);
        dueAll(ferry, "REST", 350, "0", "9", "00", "99", "000", "001", "255", "256", "999");
        dueAll(ferry, "REST", 501, "0000", "1000", "0001", "-", "-0", "-1", "+1", "1-", "a", "0a", "1.", ".1", " 1", "1 ");
        dueAll(ferry, "REST", 501, "1,2", "0x1", "4294967296", "1/", "/", ":", "1:");
        dueLine(ferry, "REST", 501);
        Checks.send(ferry, "STOR f", FULL, 226);
        Checks.joined(ferry);
        dueLine(ferry, "REST 010", 350);
        dueLine(ferry, "RETR f", 150);
        Checks.dueGiven(ferry, "RETR f", FULL.substring(10));
    }

    private static void restInAscii() {
        Client ferry = sentence("REST: 504 if the type is ASCII");
        Checks.send(ferry, "STOR f", "abc", 226);
        dueLine(ferry, "REST 1", 504);
        dueLine(ferry, "REST 1000", 501);
        Checks.joined(ferry);
        dueLine(ferry, "REST 1", 504);
        dueLine(ferry, "RETR f", 150);
        Checks.dueGiven(ferry, "RETR f", "abc");
        dueLine(ferry, "TYPE I", 200);
        dueLine(ferry, "REST 1", 350);
        dueLine(ferry, "TYPE A", 200);
        dueLine(ferry, "REST 1", 504);
    }

    private static void pasv() {
        Client ferry = sentence("PASV: the way is WAITING (a client that had joined is not joined any more); 227.");
        dueLine(ferry, "PASV", 227);
        dueLine(ferry, "PASV", 227);
        due("join()", ferry.join(), true);
        dueLine(ferry, "PASV", 227);
        dueLine(ferry, "NLST", 425);
        due("join() behind 425", ferry.join(), false);
        Checks.joined(ferry);
        dueLine(ferry, "PASV", 227);
        due("join() once more", ferry.join(), true);
        dueLine(ferry, "NLST", 150);
        Checks.dueGiven(ferry, "NLST", "");
        ferry.listen(257);
        dueLine(ferry, "PORT 1,1,1,1,1,1", 200);
        dueLine(ferry, "PASV", 227);
        dueLine(ferry, "NLST", 425);
    }

    private static void portNumbers() {
        Client ferry = sentence("PORT h,h,h,h,p,q (six decimal numbers of 1 to 3 digits, each at most 255)");
        dueAll(ferry, "PORT", 200, "0,0,0,0,0,0", "255,255,255,255,255,255", "000,001,02,3,004,05", "1,2,3,4,5,6");
        for (int i = 0; i < 6; i++) {
            for (String number : new String[] {"", "256", "999", "0000", "1000", "a", "-1", " 1", "1 ", "1.", "/", ":"}) {
                String[] numbers = {"1", "2", "3", "4", "5", "6"};
                numbers[i] = number;
                dueLine(ferry, "PORT " + String.join(",", numbers), 501);
            }
        }
        ferry = sentence("PORT: six, with ',' between");
        dueAll(ferry, "PORT", 501, "1", "1,2,3,4,5", "1,2,3,4,5,6,7", "1,2,3,4,5,6,", ",1,2,3,4,5,6", "1,2,3,,4,5,6");
        dueAll(ferry, "PORT", 501, "1.2.3.4.5.6", "1;2;3;4;5;6", "1, 2,3,4,5,6", ",", ",,,,,", "123456", "1,2,3,4,5,6,7,8");
        dueAll(ferry, "PORT", 501, "1,1,1,1,1,1,1,1,1,1,1,1", "1,2,3,4 5,6");
        dueLine(ferry, "NLST", 425);
    }

    private static void portOfNumbers() {
        Client ferry = sentence("PORT: the way is CALLING, to the port 256 * p + q; 200.");
        int[] high = {0, 0, 0, 1, 1, 127, 128, 255, 255};
        int[] low = {0, 1, 255, 0, 1, 255, 0, 0, 255};
        for (int i = 0; i < high.length; i++) {
            int port = 256 * high[i] + low[i];
            String line = "PORT 255,0,9,255," + high[i] + "," + low[i];
            due("listen(" + port + ")", ferry.listen(port), true);
            dueLine(ferry, line, 200);
            due("join()", ferry.join(), false);
            dueLine(ferry, "NLST", 150);
            Checks.dueGiven(ferry, "NLST", "");
            due("listen to the next", ferry.listen((port + 1) % 65536), true);
            dueLine(ferry, line, 200);
            dueLine(ferry, "NLST", 425);
            due("listen to the swapped", ferry.listen((port ^ 0x8080) & 65535), true);
            dueLine(ferry, line, 200);
            dueLine(ferry, "NLST", 425);
        }
        due("listen()", ferry.listen(5), true);
        dueLine(ferry, "PORT 1,1,1,1,0,5", 200);
        dueLine(ferry, "PORT 1,1,1,1,0,256", 501);
        dueLine(ferry, "NLST", 150);
    }

    private static void aborWithoutTransfer() {
        Client ferry = sentence("ABOR: otherwise 226.");
        dueLine(ferry, "ABOR", 226);
        dueLine(ferry, "PASV", 227);
        dueLine(ferry, "ABOR", 226);
        due("join()", ferry.join(), true);
        dueLine(ferry, "ABOR", 226);
        dueLine(ferry, "NLST", 150);
        Checks.dueGiven(ferry, "NLST", "");
        ferry.listen(257);
        dueLine(ferry, "PORT 1,1,1,1,1,1", 200);
        dueLine(ferry, "ABOR", 226);
        dueLine(ferry, "NLST", 150);
        Checks.dueGiven(ferry, "NLST", "");
        dueLine(ferry, "ABOR", 226);
    }

    private static void aborInTransfers() {
        Client ferry = sentence("ABOR: 426 if there is a transfer, which is dropped with its data (a file is as it was)");
        Checks.send(ferry, "STOR f", "abc", 226);
        ferry.listen(257);
        for (String begin : new String[] {"STOR f", "APPE f", "STOR g", "APPE g", "RETR f", "NLST"}) {
            dueLine(ferry, "PORT 1,1,1,1,1,1", 200);
            dueLine(ferry, begin, 150);
            ferry.give('x');
            ferry.take();
            dueLine(ferry, "ABOR", 426);
            due("transfer()", ferry.transfer(), 0);
            dueLine(ferry, "NLST", 425);
            due("nodes()", ferry.nodes(), 2);
            due("bytes()", ferry.bytes(), 3);
            due("give()", ferry.give('x'), false);
            due("end()", ferry.end(), -1);
            due("take()", ferry.take(), -1);
            dueLine(ferry, "ABOR", 226);
        }
        Checks.send(ferry, "APPE f", "d", 226);
        Checks.fetch(ferry, "RETR f", "abcd");
    }

    // Transfers that begin or do not

    private static void transferRefused() {
        Client ferry = sentence("550, if RETR does not lead to a file");
        dueLine(ferry, "MKD a", 257);
        Checks.send(ferry, "STOR a/f", "1", 226);
        String[] paths = {"a", "/", ".", "..", "no", "a/no", "a/f/", "a/f/.", "a/f/..", "f", "a/"};
        dueAll(ferry, "RETR", 550, paths);
        Checks.joined(ferry);
        dueAll(ferry, "RETR", 550, paths);
        due("transfer()", ferry.transfer(), 0);
        dueLine(ferry, "RETR a/f", 150);
        due("transfer()", ferry.transfer(), 1);
    }

    private static void retrRestart() {
        Client ferry = sentence("550, if its restart is above how many bytes that has");
        Checks.send(ferry, "STOR none", "", 226);
        Checks.send(ferry, "STOR one", "x", 226);
        Checks.send(ferry, "STOR most", FULL, 226);
        dueLine(ferry, "TYPE I", 200);
        String[] files = {"none", "one", "most"};
        int[] sizes = {0, 1, 32};
        for (int i = 0; i < files.length; i++) {
            Checks.joined(ferry);
            for (int above : new int[] {sizes[i] + 1, 33, 255, 256, 999}) {
                dueLine(ferry, "REST " + above, 350);
                dueLine(ferry, "RETR " + files[i], 550);
            }
            dueLine(ferry, "REST " + sizes[i], 350);
            dueLine(ferry, "RETR " + files[i], 150);
            Checks.dueGiven(ferry, "RETR " + files[i], "");
        }
        dueLine(ferry, "REST 33", 350);
        dueLine(ferry, "RETR most", 550);
        dueLine(ferry, "REST 32", 350);
        dueLine(ferry, "RETR most", 425);
        Checks.joined(ferry);
        dueLine(ferry, "REST 31", 350);
        dueLine(ferry, "RETR most", 150);
        Checks.dueGiven(ferry, "RETR most", "1");
    }

    private static void nlstPath() {
        Client ferry = sentence("550, if NLST's path (or '.', if it has none) does not lead to a directory");
        dueLine(ferry, "MKD a", 257);
        Checks.send(ferry, "STOR a/f", "1", 226);
        dueAll(ferry, "NLST", 550, "a/f", "no", "a/f/", "a/f/.", "a/f/..", "a/no", "no/..");
        Checks.fetch(ferry, "NLST", "a\r\n");
        Checks.fetch(ferry, "NLST a", "f\r\n");
        dueLine(ferry, "CWD a", 250);
        Checks.fetch(ferry, "NLST", "f\r\n");
        Checks.fetch(ferry, "NLST .", "f\r\n");
        Checks.fetch(ferry, "NLST ..", "a\r\n");
        Checks.fetch(ferry, "NLST /", "a\r\n");
    }

    private static void storAndAppePlaces() {
        Client ferry = sentence("553, if STOR's or APPE's path leads to a directory, or, leading to nothing, has no place");
        dueLine(ferry, "MKD a", 257);
        Checks.send(ferry, "STOR f", "1", 226);
        for (String command : new String[] {"STOR", "APPE"}) {
            dueAll(ferry, command, 553, "a", "/", ".", "..", "a/", "a/.", "a/..", "no/x", "f/x", "f/", "f/.", "x/", "a/x/");
            dueAll(ferry, command, 425, "f", "a/x", "a/../f", "x");
        }
        Checks.joined(ferry);
        dueLine(ferry, "STOR a/../f", 150);
        due("end()", ferry.end(), 226);
        Checks.dueText(ferry, "SIZE f", 213, "0");
        due("nodes()", ferry.nodes(), 3);
    }

    private static void fullBeforeWay() {
        Client ferry = sentence("452, if it leads to nothing and there are 24 nodes");
        Checks.send(ferry, "STOR f", "1", 226);
        for (int i = 0; i < 21; i++) {
            dueLine(ferry, "MKD d" + i, 257);
        }
        due("nodes()", ferry.nodes(), 23);
        dueLine(ferry, "STOR x", 425);
        dueLine(ferry, "MKD d21", 257);
        dueLine(ferry, "STOR x", 452);
        dueLine(ferry, "APPE x", 452);
        dueLine(ferry, "APPE d1/x", 452);
        dueLine(ferry, "STOR no/x", 553);
        dueLine(ferry, "STOR d1", 553);
        dueLine(ferry, "STOR x/", 553);
        dueLine(ferry, "STOR f", 425);
        Checks.joined(ferry);
        dueLine(ferry, "STOR x", 452);
        due("transfer()", ferry.transfer(), 0);
        dueLine(ferry, "APPE f", 150);
        due("give()", ferry.give('2'), true);
        due("end()", ferry.end(), 226);
        Checks.send(ferry, "STOR f", "345", 226);
        Checks.fetch(ferry, "RETR f", "345");
        due("nodes()", ferry.nodes(), 24);
    }

    private static void wayNotReady() {
        for (String line : new String[] {"RETR f", "STOR f", "STOR g", "APPE f", "APPE g", "NLST", "NLST /"}) {
            Client ferry = sentence("425, and the way is NONE, if the way is neither JOINED nor CALLING a port");
            Checks.send(ferry, "STOR f", "1", 226);
            dueLine(ferry, line, 425);
            dueLine(ferry, "PASV", 227);
            dueLine(ferry, line, 425);
            due("join()", ferry.join(), false);
            dueLine(ferry, "PORT 1,1,1,1,0,9", 200);
            dueLine(ferry, line, 425);
            due("listen(9)", ferry.listen(9), true);
            dueLine(ferry, line, 425);
            dueLine(ferry, "PORT 1,1,1,1,0,8", 200);
            dueLine(ferry, line, 425);
            due("listen(8)", ferry.listen(8), true);
            dueLine(ferry, line, 425);
            due("transfer()", ferry.transfer(), 0);
            due("nodes()", ferry.nodes(), 2);
            dueLine(ferry, "PORT 1,1,1,1,255,255", 200);
            due("listen(-1)", ferry.listen(-1), true);
            dueLine(ferry, line, 425);
            dueLine(ferry, "PORT 1,1,1,1,0,9", 200);
            due("listen(9)", ferry.listen(9), true);
            dueLine(ferry, line, 150);
            due("transfer()", ferry.transfer() != 0, true);
        }
    }

    private static void wayAfterRefusals() {
        Client ferry = sentence("550, 553 and 452 come before 425, and leave the way as it is");
        dueLine(ferry, "PASV", 227);
        dueLine(ferry, "RETR no", 550);
        dueLine(ferry, "NLST no", 550);
        dueLine(ferry, "STOR /", 553);
        dueLine(ferry, "APPE no/x", 553);
        due("join()", ferry.join(), true);
        dueLine(ferry, "RETR no", 550);
        dueLine(ferry, "NLST no", 550);
        dueLine(ferry, "STOR /", 553);
        dueLine(ferry, "APPE no/x", 553);
        dueLine(ferry, "NLST", 150);
        Checks.dueGiven(ferry, "NLST", "");
        dueLine(ferry, "RETR no", 550);
    }

    private static void retrAsThen() {
        Client ferry = sentence("RETR gives the file's bytes as they are then, from the restart on (0 if there is none)");
        dueLine(ferry, "TYPE I", 200);
        Checks.send(ferry, "STOR f", "\r\n\u0000\u00ff\n", 226);
        Checks.fetch(ferry, "RETR f", "\r\n\u0000\u00ff\n");
        Checks.joined(ferry);
        dueLine(ferry, "REST 0", 350);
        dueLine(ferry, "RETR f", 150);
        Checks.dueGiven(ferry, "RETR f", "\r\n\u0000\u00ff\n");
        Checks.joined(ferry);
        dueLine(ferry, "REST 3", 350);
        dueLine(ferry, "RETR f", 150);
        Checks.dueGiven(ferry, "RETR f", "\u00ff\n");
        Checks.send(ferry, "STOR f", "x", 226);
        Checks.fetch(ferry, "RETR f", "x");
    }

    private static void retrInAscii() {
        Client ferry = sentence("in ASCII each byte 10 as 13 and 10");
        dueLine(ferry, "TYPE I", 200);
        String[] kept = {"\n", "\r\n", "\n\n", "\r", "\n\r", "a\n", "\na", "\r\r\n", FULL.replaceAll(".", "\n")};
        for (String data : kept) {
            Checks.send(ferry, "STOR f", data, 226);
            dueLine(ferry, "TYPE A", 200);
            Checks.fetch(ferry, "RETR f", data.replace("\n", "\r\n"));
            dueLine(ferry, "TYPE I", 200);
            Checks.dueText(ferry, "SIZE f", 213, String.valueOf(data.length()));
        }
    }

    private static void nlstOrder() {
        Client ferry = sentence("in the order of the alphabet of their characters' codes");
        String[] names = {"z", "a", "9", "0", "...", "--", "-", "a-", "a.", "a0", "aa", "az", "abcdef", "abcde", "zz", ".-"};
        for (String name : names) {
            dueLine(ferry, "MKD " + name, 257);
        }
        String sorted = "- -- .- ... 0 9 a a- a. a0 aa abcde abcdef az z zz ";
        Checks.fetch(ferry, "NLST", sorted.replace(" ", "\r\n"));
        dueLine(ferry, "TYPE I", 200);
        Checks.joined(ferry);
        dueLine(ferry, "nlst .", 150);
        Checks.dueGiven(ferry, "nlst .", sorted.replace(" ", "\r\n"));
        Checks.fetch(ferry, "NLST a", "");
    }

    // Transfers that end

    private static void givingEnds() {
        Client ferry = sentence("GIVING ends when the client wants a byte and none is left: the reply is 226.");
        Checks.send(ferry, "STOR f", "ab", 226);
        Checks.send(ferry, "STOR none", "", 226);
        Checks.joined(ferry);
        dueLine(ferry, "RETR f", 150);
        due("take()", ferry.take(), 'a');
        due("take()", ferry.take(), 'b');
        due("transfer()", ferry.transfer(), 1);
        due("reply()", ferry.reply(), 150);
        dueLine(ferry, "PWD", 503);
        due("take()", ferry.take(), -1);
        due("transfer()", ferry.transfer(), 0);
        due("reply()", ferry.reply(), 226);
        Checks.joined(ferry);
        dueLine(ferry, "RETR none", 150);
        due("transfer()", ferry.transfer(), 1);
        due("take()", ferry.take(), -1);
        due("reply()", ferry.reply(), 226);
        dueLine(ferry, "NOOP", 200);
        due("take()", ferry.take(), -1);
        due("reply()", ferry.reply(), 200);
    }

    private static void returnsLeftOut() {
        String[] came = {"", "\r", "\n", "\r\n", "\n\r", "\r\r\n", "\r\n\r\n", "\r\na", "a\r\n", "\ra\n", "a\r", "\r\n\r"};
        String[] kept = {"", "\r", "\n", "\n", "\n\r", "\r\n", "\n\n", "\na", "a\n", "\ra\n", "a\r", "\n\r"};
        for (int i = 0; i < came.length; i++) {
            Client ferry = sentence("in ASCII a byte 13 that stands right before a byte 10 is left out of what came");
            Checks.send(ferry, "STOR ascii", came[i], 226);
            Checks.send(ferry, "APPE appe", came[i], 226);
            dueLine(ferry, "TYPE I", 200);
            Checks.send(ferry, "STOR image", came[i], 226);
            Checks.fetch(ferry, "RETR ascii", kept[i]);
            Checks.fetch(ferry, "RETR appe", kept[i]);
            Checks.fetch(ferry, "RETR image", came[i]);
        }
    }

    private static void appendStandsBefore() {
        Client ferry = sentence("for APPE what the file has stands before that (nothing if the path led to nothing)");
        Checks.send(ferry, "APPE f", "", 226);
        due("nodes()", ferry.nodes(), 2);
        Checks.send(ferry, "APPE f", "ab\r", 226);
        Checks.send(ferry, "APPE f", "\ncd", 226);
        Checks.send(ferry, "APPE f", "\r\n", 226);
        dueLine(ferry, "TYPE I", 200);
        Checks.fetch(ferry, "RETR f", "ab\r\ncd\n");
        Checks.send(ferry, "APPE f", "", 226);
        Checks.fetch(ferry, "RETR f", "ab\r\ncd\n");
        Checks.send(ferry, "APPE g", "x", 226);
        Checks.fetch(ferry, "RETR g", "x");
        Checks.send(ferry, "STOR f", "", 226);
        Checks.send(ferry, "APPE f", "y", 226);
        Checks.fetch(ferry, "RETR f", "y");
    }

    private static void moreThan32() {
        Client ferry = sentence("if that has more than 32 bytes, the reply is 452 and nothing changes");
        Checks.send(ferry, "STOR new", FULL + "2", 452);
        Checks.send(ferry, "APPE new", FULL + "2", 452);
        due("nodes()", ferry.nodes(), 1);
        Checks.send(ferry, "STOR f", FULL, 226);
        Checks.send(ferry, "APPE f", "2", 452);
        Checks.send(ferry, "APPE f", "", 226);
        Checks.send(ferry, "STOR f", FULL + "2", 452);
        Checks.fetch(ferry, "RETR f", FULL);
        Checks.send(ferry, "STOR f", "a", 226);
        Checks.send(ferry, "APPE f", FULL, 452);
        Checks.send(ferry, "APPE f", FULL.substring(1), 226);
        Checks.fetch(ferry, "RETR f", "a" + FULL.substring(1));
        Checks.send(ferry, "STOR f", FULL.substring(1) + "\r\n", 226);
        Checks.send(ferry, "STOR f", FULL + "\r\n", 452);
        Checks.dueText(ferry, "SIZE f", 213, "32");
    }

    private static void moreThan200() {
        Client ferry = sentence("if all files together would have more than 200, the reply is 452 and nothing changes");
        for (int i = 0; i < 6; i++) {
            Checks.send(ferry, "STOR f" + i, FULL, 226);
        }
        Checks.send(ferry, "STOR g", "1234567", 226);
        due("bytes()", ferry.bytes(), 199);
        Checks.send(ferry, "APPE g", "89", 452);
        Checks.send(ferry, "STOR h", "89", 452);
        due("nodes()", ferry.nodes(), 8);
        Checks.send(ferry, "STOR h", "\r\n", 226);
        due("bytes()", ferry.bytes(), 200);
        Checks.send(ferry, "STOR g", "7654321", 226);
        Checks.send(ferry, "STOR g", "87654321", 452);
        Checks.send(ferry, "STOR f0", FULL, 226);
        dueLine(ferry, "DELE h", 250);
        Checks.fetch(ferry, "RETR g", "7654321");
        Checks.send(ferry, "APPE g", "8", 226);
        due("bytes()", ferry.bytes(), 200);
    }

    private static void wayAfterTransfers() {
        Client ferry = sentence("In any case the way is NONE then.");
        Checks.send(ferry, "STOR f", "1", 226);
        dueLine(ferry, "NLST", 425);
        Checks.send(ferry, "STOR f", FULL + "1", 452);
        dueLine(ferry, "NLST", 425);
        Checks.fetch(ferry, "RETR f", "1");
        dueLine(ferry, "NLST", 425);
        ferry.listen(9);
        dueLine(ferry, "PORT 1,1,1,1,0,9", 200);
        dueLine(ferry, "NLST", 150);
        Checks.dueGiven(ferry, "NLST", "f\r\n");
        dueLine(ferry, "NLST", 425);
        dueLine(ferry, "PORT 1,1,1,1,0,9", 200);
        dueLine(ferry, "APPE f", 150);
        due("end()", ferry.end(), 226);
        due("join()", ferry.join(), false);
        dueLine(ferry, "RETR f", 425);
    }
}
