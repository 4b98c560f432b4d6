/** Each promise of the document: ordinary inputs, the edges that it names, and wrong inputs. */
public final class RootedFerryPromisesTest {
    private static final String[] UP_TO_LOGIN = {"USER u", "PASS p", "QUIT", "NOOP"};
    private static final String[] BEHIND_LOGIN = {
        "PWD", "CWD a", "CDUP", "MKD a", "RMD a", "DELE a", "SIZE a", "RNFR a", "RNTO a", "TYPE A", "REST 1",
        "PASV", "PORT 1,2,3,4,5,6", "ABOR", "RETR a", "STOR a", "APPE a", "NLST", "NLST a",
    };

    public static void main(String[] args) {
        newObject();
        accounts();
        accountLimits();
        opening();
        typing();
        words();
        enteringClosed();
        commandsAndArguments();
        namesAsArguments();
        pathsAsArguments();
        numbersAsArguments();
        orderOfRefusals();
        onlyForTheNextLine();
        loggingIn();
        quitting();
        currentDirectory();
        makingDirectories();
        fullOfNodes();
        removing();
        sizes();
        renaming();
        types();
        restarts();
        waysForData();
        aborting();
        retrieving();
        listing();
        storing();
        storingInTypes();
        storingBytes();
        appending();
        storingRefused();
        limitsOfBytes();
        limitOfAllBytes();
        texts();
        joining();
        listening();
        takingAndGiving();
        counting();
        Checks.finish();
    }

    private static Client at(String topic) {
        Checks.topic(topic);
        return Checks.loggedIn();
    }

    private static void dueLine(Client ferry, String line, int want) {
        Checks.dueLine(ferry, line, want);
    }

    private static void due(String what, long got, long want) {
        Checks.due(what, got, want);
    }

    private static void due(String what, boolean got, boolean want) {
        Checks.due(what, got, want);
    }

    // Promise 1

    private static void newObject() {
        Checks.topic("promise 1");
        Client ferry = new Client();
        due("nodes()", ferry.nodes(), 0);
        due("bytes()", ferry.bytes(), 0);
        due("reply()", ferry.reply(), 0);
        due("transfer()", ferry.transfer(), 0);
        due("text(0)", ferry.text(0), 0);
        due("join()", ferry.join(), false);
        due("take()", ferry.take(), -1);
        due("give(1)", ferry.give(1), false);
        due("end()", ferry.end(), -1);
        due("NOOP while closed", Checks.say(ferry, "NOOP"), -1);
        due("reply() while closed", ferry.reply(), 0);
        due("open()", ferry.open(), true);
        dueLine(ferry, "USER u", 331);
        dueLine(ferry, "PASS p", 530);
        ferry = Checks.loggedIn();
        dueLine(ferry, "PORT 1,1,1,1,0,0", 200);
        dueLine(ferry, "NLST", 425);
    }

    // Promise 2

    private static void accounts() {
        Checks.topic("promise 2");
        Client ferry = new Client();
        String[] wrong = {"", ".", "..", "abcdefg", "abcdefgh", "A", "a b", "a/b", "_", "`", "{", "/", ":", ",", "\u00e9"};
        for (String name : wrong) {
            due("account('" + name + "', p)", Checks.account(ferry, name, "p"), false);
            due("account(u, '" + name + "')", Checks.account(ferry, "u", name), false);
        }
        due("nodes() behind the refused", ferry.nodes(), 0);
        due("account(abcdef, a-.z09)", Checks.account(ferry, "abcdef", "a-.z09"), true);
        due("account(abcdef, x)", Checks.account(ferry, "abcdef", "x"), false);
        due("account(..., ....)", Checks.account(ferry, "...", "...."), true);
        due("the characters end at a byte 0", ferry.account(Checks.word("ab\0/XY"), Checks.word("p\0Q")), true);
        due("nodes()", ferry.nodes(), 3);
        due("open()", ferry.open(), true);
        due("account(z, z) while open", Checks.account(ferry, "z", "z"), false);
        Checks.logIn(ferry, "abcdef", "a-.z09");
        Checks.logIn(ferry, "...", "....");
        Checks.logIn(ferry, "ab", "p");
        dueLine(ferry, "QUIT", 221);
        due("account(z, z) when closed again", Checks.account(ferry, "z", "z"), true);
        due("nodes()", ferry.nodes(), 4);
    }

    private static void accountLimits() {
        Checks.topic("promise 2");
        Client ferry = new Client();
        for (String user : new String[] {"a", "b", "c", "d"}) {
            due("account(" + user + ")", Checks.account(ferry, user, "p"), true);
        }
        due("a fifth account", Checks.account(ferry, "e", "p"), false);
        due("nodes()", ferry.nodes(), 4);

        ferry = Checks.loggedIn();
        for (int i = 1; i < 24; i++) {
            dueLine(ferry, "MKD " + i, 257);
        }
        dueLine(ferry, "QUIT", 221);
        due("an account at 24 nodes", Checks.account(ferry, "v", "q"), false);
        due("nodes()", ferry.nodes(), 24);
        ferry.open();
        Checks.logIn(ferry, "u", "p");
        dueLine(ferry, "RMD 7", 250);
        dueLine(ferry, "QUIT", 221);
        due("an account at 23 nodes", Checks.account(ferry, "v", "q"), true);
        due("nodes()", ferry.nodes(), 24);
        ferry.open();
        Checks.logIn(ferry, "v", "q");
        dueLine(ferry, "CWD 8", 550);
        Checks.fetch(ferry, "NLST", "");
    }

    // Promise 3

    private static void opening() {
        Client ferry = at("promise 3");
        due("open() when open", ferry.open(), false);
        due("reply() of the refused", ferry.reply(), 230);
        dueLine(ferry, "PWD", 257);
        dueLine(ferry, "TYPE I", 200);
        dueLine(ferry, "PASV", 227);
        dueLine(ferry, "REST 1", 350);
        dueLine(ferry, "QUIT", 221);
        ferry.type('P');
        due("open()", ferry.open(), true);
        due("reply()", ferry.reply(), 220);
        due("the line stays", Checks.say(ferry, "WD"), 530);
        Checks.logIn(ferry, "u", "p");
        dueLine(ferry, "REST 0", 504);
        due("join()", ferry.join(), false);
        dueLine(ferry, "PORT 1,1,1,1,0,9", 200);
        due("listen(9)", ferry.listen(9), true);
        dueLine(ferry, "QUIT", 221);
        ferry.open();
        dueLine(ferry, "PASS p", 503);
        Checks.logIn(ferry, "u", "p");
        dueLine(ferry, "NLST", 425);
        dueLine(ferry, "PORT 1,1,1,1,0,9", 200);
        dueLine(ferry, "NLST", 150);
        Checks.dueGiven(ferry, "NLST", "");
    }

    // Promise 4

    private static void typing() {
        Client ferry = at("promise 4");
        for (int code = 0; code < 32; code++) {
            due("type(" + code + ")", ferry.type((char) code), false);
        }
        for (char code : new char[] {127, 128, 255, 256 + 'A', 0xff41, 0xffff}) {
            due("type(" + (int) code + ")", ferry.type(code), false);
        }
        dueLine(ferry, "NOOP", 200);
        for (int code = 32; code <= 126; code++) {
            due("type(" + code + ")", ferry.type((char) code), true);
            ferry.enter();
        }
        dueLine(ferry, "MKD a", 257);
        String line = "CWD a/a/../../a/../a/../a/../a/.";
        due("32 characters", line.length(), 32);
        for (int i = 0; i < 32; i++) {
            due("type() " + i, ferry.type(i == 6 ? '.' : line.charAt(i)), true);
        }
        due("type() at 32", ferry.type('x'), false);
        due("enter()", ferry.enter(), 250);
        Checks.dueText(ferry, "PWD", 257, "/a");
    }

    // Promise 5

    private static void words() {
        Client ferry = at("promise 5");
        due("word(0)", ferry.word(0L), 0);
        due("word(PWD)", ferry.word(Checks.word("PWD")), 3);
        due("enter()", ferry.enter(), 257);
        due("word with a 0 in it", ferry.word(Checks.word("NO\0X")), 2);
        due("word(OP)", ferry.word(Checks.word("OP")), 2);
        due("enter()", ferry.enter(), 200);
        due("word with a character refused", ferry.word(Checks.word("PW\tDD")), 2);
        due("word(D)", ferry.word(Checks.word("D")), 1);
        due("enter()", ferry.enter(), 257);
        due("word of high bytes", ferry.word(-1L), 0);
        due("word(127 behind A)", ferry.word(Checks.word("A\u007fA")), 1);
        ferry.enter();
        due("word of 8", ferry.word(Checks.word("MKD abcd")), 8);
        due("enter()", ferry.enter(), 257);
        Checks.dueText(ferry, "CDUP", 200, "");
        for (int i = 0; i < 3; i++) {
            due("word of 8 spaces", ferry.word(Checks.word("        ")), 8);
        }
        due("word of 5", ferry.word(Checks.word("12345")), 5);
        due("word of 8 with 3 left", ferry.word(Checks.word("12345678")), 3);
        due("word of 8 with 0 left", ferry.word(Checks.word("12345678")), 0);
        due("enter()", ferry.enter(), 500);
        dueLine(ferry, "NOOP", 200);
    }

    // Promises 6 and 7

    private static void enteringClosed() {
        Checks.topic("promise 6, closed");
        Client ferry = new Client();
        due("NOOP", Checks.say(ferry, "NOOP"), -1);
        due("reply()", ferry.reply(), 0);
        ferry.open();
        due("the line was emptied", ferry.enter(), 500);
        due("reply()", ferry.reply(), 500);
        dueLine(ferry, "QUIT", 221);
        due("NOOP", Checks.say(ferry, "NOOP"), -1);
        due("reply()", ferry.reply(), 221);
        ferry.open();
        dueLine(ferry, "NOOP", 200);
    }

    private static void commandsAndArguments() {
        Client ferry = at("promise 6, lines");
        String[] unknown = {
            "", " ", "  ", "X", "NOO", "NOOPS", "NOOP1", "1", " NOOP", "NO OP", "FOO a", "PWD/", "PW", "CWDa",
            "USER1 a", "-", "NOOP\u007e", "N", "CW a", "RETRY a", "@OOP", "[OOP", "NOO0", "nooP.",
        };
        for (String line : unknown) {
            dueLine(ferry, line, 500);
        }
        for (String line : UP_TO_LOGIN) {
            dueLine(ferry, line.substring(0, 4) + " ", 500);
        }
        for (String line : BEHIND_LOGIN) {
            dueLine(ferry, (line + " ").substring(0, (line + " ").indexOf(' ') + 1), 500);
        }
        for (String command : new String[] {"QUIT", "NOOP", "PWD", "CDUP", "PASV", "ABOR"}) {
            dueLine(ferry, command + " a", 501);
            dueLine(ferry, command + "  ", 501);
        }
        String[] needing = {
            "USER", "PASS", "CWD", "MKD", "RMD", "DELE", "SIZE", "RNFR", "RNTO", "TYPE", "REST", "PORT", "RETR",
            "STOR", "APPE",
        };
        for (String command : needing) {
            dueLine(ferry, command, 501);
        }
        dueLine(ferry, "nOoP", 200);
        dueLine(ferry, "pwd", 257);
        dueLine(ferry, "mKd a", 257);
        dueLine(ferry, "zzzz", 500);
        for (String line : BEHIND_LOGIN) {
            String command = line.substring(0, (line + " ").indexOf(' '));
            due(line + " in small letters", Checks.say(ferry, command.toLowerCase() + " //") != 500, true);
        }
        dueLine(ferry, "cwd A", 501);
        Checks.logIn(ferry, "u", "p");
    }

    private static void namesAsArguments() {
        Client ferry = at("promise 6, names");
        String[] wrong = {".", "..", "U", "abcdefg", " u", "u ", "u/", "/u", "a_b", "a b", "a*"};
        for (String name : wrong) {
            dueLine(ferry, "USER " + name, 501);
            dueLine(ferry, "PASS " + name, 501);
            if (name.indexOf('/') < 0 && name.charAt(0) != '.') {
                dueLine(ferry, "MKD " + name, 501);
            }
        }
        dueLine(ferry, "PWD", 257);
        for (String name : new String[] {"...", ".a", "a.", "-", "0", "9z-.a", "abcdef"}) {
            dueLine(ferry, "MKD " + name, 257);
        }
        dueLine(ferry, "USER ...", 331);
        dueLine(ferry, "USER abcdef", 331);
    }

    private static void pathsAsArguments() {
        Client ferry = at("promise 6, paths");
        String[] commands = {
            "CWD ", "MKD ", "RMD ", "DELE ", "SIZE ", "RNFR ", "RNTO ", "RETR ", "STOR ", "APPE ", "NLST ",
        };
        String[] wrong = {
            "//", "a//", "//a", "a//b", "/a//b", "abcdefg", "a/abcdefg/b", "A", "a b", " a", "a ", "a/ ", "a/B",
            "a\\b", "../", "~",
        };
        for (String command : commands) {
            for (String path : wrong) {
                dueLine(ferry, command + path, path.equals("../") ? ofRoot(command) : 501);
            }
            ferry = at("promise 6, paths");
        }
        dueLine(ferry, "MKD a", 257);
        dueLine(ferry, "MKD a/b", 257);
        dueLine(ferry, "MKD /a/b/c", 257);
        String[] right = {"/", ".", "./", "..", "../", "/..", "/../../", "/.", "a", "a/", "/a/", "a/./b/../b/c/", "/a/b/c/."};
        String[] ends = {"/", "/", "/", "/", "/", "/", "/", "/", "/a", "/a", "/a", "/a/b/c", "/a/b/c"};
        for (int i = 0; i < right.length; i++) {
            dueLine(ferry, "CWD " + right[i], 250);
            Checks.dueText(ferry, "PWD", 257, ends[i]);
            dueLine(ferry, "CWD /", 250);
        }
        dueLine(ferry, "CWD a/./././././././././././././", 250);
        dueLine(ferry, "CWD ..", 250);
        dueLine(ferry, "CWD /a/b/c/../../../../a/b/c/..", 250);
        Checks.dueText(ferry, "PWD", 257, "/a/b");
    }

    /** What a command answers to '../' at the root, where nothing else is. */
    private static int ofRoot(String command) {
        switch (command) {
            case "CWD ":
                return 250;
            case "RNTO ":
                return 503;
            case "STOR ":
            case "APPE ":
                return 553;
            case "NLST ":
                return 425;
            default:
                return 550;
        }
    }

    private static void numbersAsArguments() {
        Client ferry = at("promise 6, numbers");
        dueLine(ferry, "TYPE I", 200);
        for (String number : new String[] {"0", "00", "000", "7", "12", "999", "010"}) {
            dueLine(ferry, "REST " + number, 350);
        }
        for (String number : new String[] {"1000", "0000", "-1", "+1", "a", "1a", "a1", " 1", "1 ", "1.0", ":", "/"}) {
            dueLine(ferry, "REST " + number, 501);
        }
        for (String port : new String[] {"0,0,0,0,0,0", "255,255,255,255,255,255", "001,02,3,4,5,006"}) {
            dueLine(ferry, "PORT " + port, 200);
        }
        String[] wrong = {
            "1", "1,2,3,4,5", "1,2,3,4,5,6,7", "1,2,3,4,5,", ",1,2,3,4,5", "1,2,,4,5,6", "1,2,3,4,5,256",
            "256,2,3,4,5,6", "1,2,3,4,256,6", "1,2,3,999,5,6", "1,2,3,4,5,0001", "1,2,3,4,5,-1", "1,2,3,4,5,a",
            "1.2.3.4.5.6", "1, 2,3,4,5,6", " 1,2,3,4,5,6", "1,2,3,4,5,6 ", ",", ",,,,,", "1,2,3,4,5,6,",
        };
        for (String port : wrong) {
            dueLine(ferry, "PORT " + port, 501);
        }
    }

    private static void orderOfRefusals() {
        Checks.topic("promise 6, order");
        Client ferry = new Client();
        Checks.account(ferry, "u", "p");
        ferry.open();
        for (String line : BEHIND_LOGIN) {
            dueLine(ferry, line, 530);
        }
        dueLine(ferry, "NOOP", 200);
        dueLine(ferry, "CWD //", 501);
        dueLine(ferry, "CWD ", 500);
        dueLine(ferry, "PASS p", 503);
        dueLine(ferry, "PASS P", 501);
        Checks.logIn(ferry, "u", "p");
        Checks.joined(ferry);
        dueLine(ferry, "STOR f", 150);
        for (String line : BEHIND_LOGIN) {
            if (!line.equals("ABOR")) {
                dueLine(ferry, line, 503);
            }
        }
        dueLine(ferry, "USER u", 503);
        dueLine(ferry, "PASS p", 503);
        dueLine(ferry, "CWD", 501);
        dueLine(ferry, "CWD ", 500);
        dueLine(ferry, "NOOP", 200);
        due("transfer()", ferry.transfer(), 2);
        dueLine(ferry, "QUIT 1", 501);
        due("nodes()", ferry.nodes(), 1);
        due("end()", ferry.end(), 226);
        due("nodes()", ferry.nodes(), 2);
    }

    private static void onlyForTheNextLine() {
        Client ferry = at("promise 6, the next line");
        Checks.send(ferry, "STOR f", "abc", 226);
        dueLine(ferry, "TYPE I", 200);
        for (String between : new String[] {"NOOP", "", "FOO", "CWD", "CWD x", "PASS p", "TYPE A"}) {
            dueLine(ferry, "RNFR f", 350);
            Checks.say(ferry, between);
            dueLine(ferry, "RNTO g", 503);
            dueLine(ferry, "PASV", 227);
            ferry.join();
            dueLine(ferry, "TYPE I", 200);
            dueLine(ferry, "REST 2", 350);
            Checks.say(ferry, between);
            dueLine(ferry, "RETR f", 150);
            Checks.dueGiven(ferry, "RETR f", "abc");
        }
        dueLine(ferry, "TYPE I", 200);
        dueLine(ferry, "RNFR f", 350);
        dueLine(ferry, "RNTO //", 501);
        dueLine(ferry, "RNTO g", 503);
        dueLine(ferry, "REST 2", 350);
        dueLine(ferry, "RETR x", 550);
        Checks.fetch(ferry, "RETR f", "abc");
        for (String between : new String[] {"NOOP", "", "PWD", "PASS", "PASS P"}) {
            dueLine(ferry, "USER u", 331);
            Checks.say(ferry, between);
            dueLine(ferry, "PASS p", 503);
        }
        dueLine(ferry, "USER u", 331);
        dueLine(ferry, "PASS x", 530);
        dueLine(ferry, "PASS p", 503);
    }

    private static void loggingIn() {
        Checks.topic("promise 6, USER and PASS");
        Client ferry = new Client();
        Checks.account(ferry, "ann", "one");
        Checks.account(ferry, "bob", "two");
        ferry.open();
        dueLine(ferry, "USER ann", 331);
        dueLine(ferry, "PASS two", 530);
        dueLine(ferry, "PWD", 530);
        dueLine(ferry, "USER eve", 331);
        dueLine(ferry, "PASS one", 530);
        dueLine(ferry, "USER bob", 331);
        dueLine(ferry, "USER ann", 331);
        dueLine(ferry, "PASS one", 230);
        dueLine(ferry, "PASS one", 503);
        dueLine(ferry, "MKD a", 257);
        dueLine(ferry, "CWD a", 250);
        dueLine(ferry, "TYPE I", 200);
        dueLine(ferry, "PASV", 227);
        dueLine(ferry, "USER bob", 331);
        dueLine(ferry, "PWD", 530);
        Checks.logIn(ferry, "bob", "two");
        Checks.dueText(ferry, "PWD", 257, "/");
        dueLine(ferry, "CWD a", 550);
        dueLine(ferry, "REST 1", 350);
        due("join()", ferry.join(), true);
        dueLine(ferry, "MKD a", 257);
        Checks.logIn(ferry, "ann", "one");
        Checks.dueText(ferry, "PWD", 257, "/");
        dueLine(ferry, "USER ann", 331);
        dueLine(ferry, "PASS one1", 530);
        dueLine(ferry, "PWD", 530);
        due("nodes()", ferry.nodes(), 4);
    }

    private static void quitting() {
        Client ferry = at("promise 6, QUIT");
        Checks.send(ferry, "STOR f", "abc", 226);
        Checks.joined(ferry);
        dueLine(ferry, "STOR f", 150);
        Checks.giveAll(ferry, "wxyz");
        dueLine(ferry, "QUIT", 221);
        due("transfer()", ferry.transfer(), 0);
        due("give(1)", ferry.give(1), false);
        due("end()", ferry.end(), -1);
        due("join()", ferry.join(), false);
        due("bytes()", ferry.bytes(), 3);
        due("reply()", ferry.reply(), 221);
        ferry.open();
        Checks.logIn(ferry, "u", "p");
        dueLine(ferry, "RETR f", 425);
        Checks.joined(ferry);
        dueLine(ferry, "RETR f", 150);
        dueLine(ferry, "QUIT", 221);
        due("take()", ferry.take(), -1);
        due("reply()", ferry.reply(), 221);
        ferry.open();
        Checks.logIn(ferry, "u", "p");
        dueLine(ferry, "PASV", 227);
        dueLine(ferry, "QUIT", 221);
        due("join()", ferry.join(), false);
    }

    private static void currentDirectory() {
        Client ferry = at("promise 6, PWD, CWD, CDUP");
        Checks.dueText(ferry, "PWD", 257, "/");
        dueLine(ferry, "CDUP", 200);
        Checks.dueText(ferry, "PWD", 257, "/");
        dueLine(ferry, "MKD abcdef", 257);
        dueLine(ferry, "MKD abcdef/x-1.z", 257);
        Checks.send(ferry, "STOR f", "", 226);
        dueLine(ferry, "CWD abcdef", 250);
        dueLine(ferry, "CWD x-1.z", 250);
        Checks.dueText(ferry, "PWD", 257, "/abcdef/x-1.z");
        for (String path : new String[] {"no", "/f", "/f/", "/f/.", "/f/..", "../../f", "/no/..", "x-1.z", "/x-1.z"}) {
            dueLine(ferry, "CWD " + path, 550);
        }
        Checks.dueText(ferry, "PWD", 257, "/abcdef/x-1.z");
        dueLine(ferry, "CDUP", 200);
        Checks.dueText(ferry, "PWD", 257, "/abcdef");
        dueLine(ferry, "CWD ..", 250);
        dueLine(ferry, "CWD ..", 250);
        Checks.dueText(ferry, "PWD", 257, "/");
    }

    private static void makingDirectories() {
        Client ferry = at("promise 6, MKD");
        Checks.dueText(ferry, "MKD a", 257, "/a");
        Checks.dueText(ferry, "MKD /a/b", 257, "/a/b");
        dueLine(ferry, "CWD a/b", 250);
        Checks.dueText(ferry, "MKD ../.././a/c", 257, "/a/c");
        Checks.dueText(ferry, "MKD c", 257, "/a/b/c");
        Checks.send(ferry, "STOR /f", "1", 226);
        String[] wrong = {"c", "/a", "/f", "/", ".", "..", "d/", "/a/d/", "no/d", "/f/d", "/f/../d", "d/.", "d/..", "no/../d"};
        for (String path : wrong) {
            Checks.dueText(ferry, "MKD " + path, 550, "");
        }
        due("nodes()", ferry.nodes(), 6);
    }

    private static void fullOfNodes() {
        Client ferry = at("promise 6, 24 nodes");
        StringBuilder down = new StringBuilder();
        for (int i = 0; i < 22; i++) {
            String name = "dir-" + (10 + i);
            down.append('/').append(name);
            dueLine(ferry, "MKD " + name, 257);
            dueLine(ferry, "CWD " + name, 250);
        }
        due("nodes()", ferry.nodes(), 23);
        Checks.send(ferry, "STOR f", "x", 226);
        due("nodes()", ferry.nodes(), 24);
        dueLine(ferry, "MKD x", 550);
        dueLine(ferry, "STOR x", 452);
        dueLine(ferry, "APPE x", 452);
        dueLine(ferry, "STOR no/x", 553);
        dueLine(ferry, "STOR f", 425);
        dueLine(ferry, "DELE f", 250);
        due("nodes()", ferry.nodes(), 23);
        down.append("/g234.6");
        due("length of the longest text", down.length(), 161);
        Checks.dueText(ferry, "MKD g234.6", 257, down.toString());
        Checks.dueText(ferry, "PASV", 227, "");
        dueLine(ferry, "STOR x", 452);
        due("the way stays at 452", ferry.join(), true);
    }

    private static void removing() {
        Client ferry = at("promise 6, RMD and DELE");
        dueLine(ferry, "MKD a", 257);
        dueLine(ferry, "MKD a/b", 257);
        Checks.send(ferry, "STOR a/f", "123", 226);
        for (String path : new String[] {"a", "/", ".", "..", "a/f", "no", "a/f/", "a/no", "a/b/../../a"}) {
            dueLine(ferry, "RMD " + path, 550);
        }
        for (String path : new String[] {"a", "/", ".", "a/b", "a/f/", "a/f/.", "no", "f"}) {
            dueLine(ferry, "DELE " + path, 550);
        }
        dueLine(ferry, "CWD a/b", 250);
        dueLine(ferry, "RMD .", 550);
        dueLine(ferry, "RMD /a/b", 550);
        dueLine(ferry, "RMD ../b/", 550);
        dueLine(ferry, "CDUP", 200);
        dueLine(ferry, "RMD ./b/", 250);
        dueLine(ferry, "RMD b", 550);
        dueLine(ferry, "DELE ../a/f", 250);
        due("bytes()", ferry.bytes(), 0);
        dueLine(ferry, "DELE f", 550);
        dueLine(ferry, "RMD .", 550);
        dueLine(ferry, "RMD /", 550);
        dueLine(ferry, "CWD /", 250);
        dueLine(ferry, "RMD /", 550);
        dueLine(ferry, "RMD a", 250);
        dueLine(ferry, "RMD .", 550);
        due("nodes()", ferry.nodes(), 1);
        Checks.fetch(ferry, "NLST", "");
    }

    private static void sizes() {
        Client ferry = at("promise 6, SIZE");
        StringBuilder data = new StringBuilder();
        for (int size : new int[] {0, 1, 9, 10, 11, 19, 20, 29, 30, 32}) {
            while (data.length() < size) {
                data.append('x');
            }
            Checks.send(ferry, "STOR f", data.toString(), 226);
            Checks.dueText(ferry, "SIZE f", 213, String.valueOf(size));
        }
        dueLine(ferry, "MKD a", 257);
        for (String path : new String[] {"a", "/", ".", "no", "f/", "f/.", "a/f"}) {
            Checks.dueText(ferry, "SIZE " + path, 550, "");
        }
        Checks.dueText(ferry, "SIZE a/../f", 213, "32");
    }

    private static void renaming() {
        Client ferry = at("promise 6, RNFR and RNTO");
        for (String path : new String[] {"a", "a/b", "a/b/c", "d"}) {
            dueLine(ferry, "MKD " + path, 257);
        }
        Checks.send(ferry, "STOR a/f", "123", 226);
        for (String path : new String[] {"/", ".", "..", "no", "a/f/", "a/no", "no/a"}) {
            dueLine(ferry, "RNFR " + path, 550);
            dueLine(ferry, "RNTO x", 503);
        }
        dueLine(ferry, "RNTO x", 503);
        String[] wrong = {"a", "d", "a/f", "x/", "x/.", "no/x", "a/f/x", "a/x", "a/b/x", "a/b/c/x", "/", ".", "a/b/../x"};
        for (String path : wrong) {
            dueLine(ferry, "RNFR a", 350);
            dueLine(ferry, "RNTO " + path, 553);
        }
        dueLine(ferry, "RNFR a/f", 350);
        dueLine(ferry, "RNTO a/f", 553);
        dueLine(ferry, "CWD a/b/c", 250);
        dueLine(ferry, "RNFR ../../../a", 350);
        dueLine(ferry, "RNTO /d/new", 250);
        Checks.dueText(ferry, "PWD", 257, "/d/new/b/c");
        dueLine(ferry, "CWD /a", 550);
        dueLine(ferry, "RNFR .", 350);
        dueLine(ferry, "RNTO x", 553);
        dueLine(ferry, "RNFR .", 350);
        dueLine(ferry, "RNTO ../e", 250);
        Checks.dueText(ferry, "PWD", 257, "/d/new/b/e");
        dueLine(ferry, "RNFR /d/new/f", 350);
        dueLine(ferry, "RNTO f2", 250);
        Checks.dueText(ferry, "SIZE f2", 213, "3");
        dueLine(ferry, "SIZE /d/new/f", 550);
        dueLine(ferry, "RNTO f3", 503);
        Checks.fetch(ferry, "RETR f2", "123");
        dueLine(ferry, "RNFR /d/", 350);
        dueLine(ferry, "RNTO /dd", 250);
        Checks.dueText(ferry, "PWD", 257, "/dd/new/b/e");
        due("nodes()", ferry.nodes(), 6);
    }

    private static void types() {
        Client ferry = at("promise 6, TYPE");
        String[] wrong = {"B", "E", "AA", "IA", "a i", " A", "A ", "1", "\u0021", "@", "L 8", "AN"};
        for (String type : wrong) {
            dueLine(ferry, "TYPE " + type, 504);
        }
        dueLine(ferry, "REST 0", 504);
        dueLine(ferry, "TYPE i", 200);
        dueLine(ferry, "REST 0", 350);
        dueLine(ferry, "TYPE X", 504);
        dueLine(ferry, "REST 0", 350);
        dueLine(ferry, "TYPE a", 200);
        dueLine(ferry, "REST 0", 504);
        dueLine(ferry, "TYPE I", 200);
        dueLine(ferry, "REST 0", 350);
        dueLine(ferry, "TYPE A", 200);
        dueLine(ferry, "REST 0", 504);
    }

    private static void restarts() {
        Client ferry = at("promise 6, REST");
        Checks.send(ferry, "STOR f", "abcd", 226);
        dueLine(ferry, "TYPE I", 200);
        String[] rest = {"abcd", "bcd", "cd", "d", ""};
        for (int from = 0; from <= 4; from++) {
            Checks.joined(ferry);
            dueLine(ferry, "REST " + from, 350);
            dueLine(ferry, "RETR f", 150);
            Checks.dueGiven(ferry, "RETR f", rest[from]);
        }
        Checks.joined(ferry);
        dueLine(ferry, "REST 5", 350);
        dueLine(ferry, "RETR f", 550);
        dueLine(ferry, "REST 999", 350);
        dueLine(ferry, "RETR f", 550);
        dueLine(ferry, "REST 2", 350);
        dueLine(ferry, "REST 3", 350);
        dueLine(ferry, "RETR f", 150);
        Checks.dueGiven(ferry, "RETR f", "d");
        Checks.joined(ferry);
        dueLine(ferry, "REST 2", 350);
        dueLine(ferry, "STOR f", 150);
        Checks.giveAll(ferry, "xy");
        due("end()", ferry.end(), 226);
        Checks.fetch(ferry, "RETR f", "xy");
    }

    private static void waysForData() {
        Client ferry = at("promise 6, PASV and PORT");
        dueLine(ferry, "NLST", 425);
        dueLine(ferry, "PASV", 227);
        dueLine(ferry, "NLST", 425);
        due("the way is NONE behind 425", ferry.join(), false);
        Checks.joined(ferry);
        dueLine(ferry, "PASV", 227);
        dueLine(ferry, "NLST", 425);
        due("listen(1541)", ferry.listen(5 + 6 * 256), true);
        dueLine(ferry, "PORT 9,9,9,9,6,5", 200);
        due("join() of CALLING", ferry.join(), false);
        dueLine(ferry, "NLST", 150);
        Checks.dueGiven(ferry, "NLST", "");
        dueLine(ferry, "NLST", 425);
        dueLine(ferry, "PORT 9,9,9,9,5,6", 200);
        dueLine(ferry, "NLST", 425);
        due("listen(1286)", ferry.listen(6 + 5 * 256), true);
        dueLine(ferry, "NLST", 425);
        dueLine(ferry, "PORT 9,9,9,9,6,5", 200);
        due("listen(1541)", ferry.listen(5 + 6 * 256), true);
        dueLine(ferry, "PASV", 227);
        dueLine(ferry, "NLST", 425);
        Checks.joined(ferry);
        dueLine(ferry, "PORT 9,9,9,9,6,6", 200);
        dueLine(ferry, "NLST", 425);
        dueLine(ferry, "PORT 9,9,9,9,6,6", 200);
        dueLine(ferry, "PORT 9,9,9,9,6,5", 200);
        dueLine(ferry, "NLST no", 550);
        dueLine(ferry, "RETR no", 550);
        dueLine(ferry, "STOR no/no", 553);
        dueLine(ferry, "NLST", 150);
        due("listen() in the transfer", ferry.listen(-1), true);
        Checks.dueGiven(ferry, "NLST", "");
    }

    private static void aborting() {
        Client ferry = at("promise 6, ABOR");
        dueLine(ferry, "ABOR", 226);
        Checks.send(ferry, "STOR f", "abc", 226);
        for (String line : new String[] {"STOR f", "APPE f", "STOR g", "RETR f", "NLST"}) {
            Checks.joined(ferry);
            dueLine(ferry, line, 150);
            ferry.give('x');
            dueLine(ferry, "ABOR", 426);
            due("transfer()", ferry.transfer(), 0);
            due("end()", ferry.end(), -1);
            due("take()", ferry.take(), -1);
            due("reply()", ferry.reply(), 426);
            due("join()", ferry.join(), false);
            dueLine(ferry, "ABOR", 226);
            dueLine(ferry, "NLST", 425);
        }
        due("nodes()", ferry.nodes(), 2);
        Checks.fetch(ferry, "RETR f", "abc");
        Checks.send(ferry, "APPE f", "d", 226);
        Checks.fetch(ferry, "RETR f", "abcd");
        dueLine(ferry, "PASV", 227);
        dueLine(ferry, "ABOR", 226);
        due("the way stays without a transfer", ferry.join(), true);
        dueLine(ferry, "ABOR", 226);
        dueLine(ferry, "NLST", 150);
    }

    private static void retrieving() {
        Client ferry = at("promise 6, RETR");
        dueLine(ferry, "MKD a", 257);
        dueLine(ferry, "TYPE I", 200);
        Checks.send(ferry, "STOR f", "a\nb\r\nc\r\r\n\n\u0000\u00ff", 226);
        Checks.fetch(ferry, "RETR f", "a\nb\r\nc\r\r\n\n\u0000\u00ff");
        dueLine(ferry, "TYPE A", 200);
        Checks.fetch(ferry, "RETR f", "a\r\nb\r\r\nc\r\r\r\n\r\n\u0000\u00ff");
        Checks.joined(ferry);
        for (String path : new String[] {"a", "/", ".", "no", "f/", "f/.", "a/f"}) {
            dueLine(ferry, "RETR " + path, 550);
        }
        dueLine(ferry, "RETR a/../f", 150);
        dueLine(ferry, "ABOR", 426);
        dueLine(ferry, "TYPE I", 200);
        String lines = "\n\n\n\n\n\n\n\n\n\n\n\n\n\n\n\n\n\n\n\n\n\n\n\n\n\n\n\n\n\n\n\n";
        Checks.send(ferry, "STOR g", lines, 226);
        dueLine(ferry, "TYPE A", 200);
        Checks.fetch(ferry, "RETR g", lines.replace("\n", "\r\n"));
    }

    private static void listing() {
        Client ferry = at("promise 6, NLST");
        for (String name : new String[] {"b", "ab", "a", "z9", "z-", "z.", "0", "...", "za", "-", "abcdef", "abcdeg", "a0"}) {
            dueLine(ferry, "MKD " + name, 257);
        }
        Checks.send(ferry, "STOR aa", "x", 226);
        dueLine(ferry, "MKD b/inner", 257);
        String all = "- ... 0 a a0 aa ab abcdef abcdeg b z- z. z9 za ";
        Checks.fetch(ferry, "NLST", all.replace(" ", "\r\n"));
        dueLine(ferry, "TYPE I", 200);
        Checks.fetch(ferry, "NLST b", "inner\r\n");
        Checks.fetch(ferry, "NLST b/inner/", "");
        Checks.fetch(ferry, "NLST b/../", all.replace(" ", "\r\n"));
        for (String path : new String[] {"aa", "no", "aa/", "b/no"}) {
            dueLine(ferry, "NLST " + path, 550);
        }
        dueLine(ferry, "CWD b", 250);
        Checks.fetch(ferry, "NLST", "inner\r\n");
        Checks.fetch(ferry, "NLST .", "inner\r\n");
        dueLine(ferry, "SIZE /aa", 213);
        Checks.fetch(ferry, "NLST", "inner\r\n");
        dueLine(ferry, "NLST /aa/", 550);
        Checks.fetch(ferry, "NLST", "inner\r\n");
        Checks.joined(ferry);
        dueLine(ferry, "CWD /b", 250);
        dueLine(ferry, "NLST", 150);
        Checks.dueGiven(ferry, "NLST", "inner\r\n");
        Checks.fetch(ferry, "nlst /", all.replace(" ", "\r\n"));

        ferry = at("promise 6, NLST");
        StringBuilder longest = new StringBuilder();
        for (int i = 0; i < 23; i++) {
            dueLine(ferry, "MKD long" + (99 - i), 257);
            longest.insert(0, "long" + (99 - i) + "\r\n");
        }
        Checks.fetch(ferry, "NLST", longest.toString());
    }

    private static void storing() {
        Client ferry = at("promise 6, STOR");
        dueLine(ferry, "MKD a", 257);
        Checks.send(ferry, "STOR a/f", "one", 226);
        Checks.fetch(ferry, "RETR a/f", "one");
        Checks.send(ferry, "STOR a/f", "xy", 226);
        Checks.fetch(ferry, "RETR /a/f", "xy");
        Checks.send(ferry, "STOR a/f", "", 226);
        Checks.fetch(ferry, "RETR a/f", "");
        due("nodes()", ferry.nodes(), 3);
        dueLine(ferry, "STOR a/f", 425);
    }

    private static void storingInTypes() {
        String[] came = {"a\r\nb", "\r", "\r\r\n", "\r\n", "\n\r", "\r\n\r\n", "\n\n", "\ra\n", "\r\r\r\n\n\r"};
        String[] kept = {"a\nb", "\r", "\r\n", "\n", "\n\r", "\n\n", "\n\n", "\ra\n", "\r\r\n\n\r"};
        for (int i = 0; i < came.length; i++) {
            Client ferry = at("promise 6, STOR in " + i);
            Checks.send(ferry, "STOR f", came[i], 226);
            dueLine(ferry, "TYPE I", 200);
            Checks.fetch(ferry, "RETR f", kept[i]);
            Checks.send(ferry, "STOR f", came[i], 226);
            Checks.fetch(ferry, "RETR f", came[i]);
        }
    }

    private static void storingBytes() {
        Client ferry = at("promise 12, bytes");
        Checks.send(ferry, "STOR f", "ab\n", 226);
        Checks.send(ferry, "STOR f", "a\r", 226);
        Checks.fetch(ferry, "RETR f", "a\r");
        Checks.send(ferry, "STOR f", "abcd", 226);
        Checks.joined(ferry);
        dueLine(ferry, "STOR f", 150);
        due("give(-1)", ferry.give(-1), true);
        due("give(256)", ferry.give(256), true);
        due("give(0x7fffff41)", ferry.give(0x7fffff41), true);
        due("bytes() before the end", ferry.bytes(), 4);
        due("end()", ferry.end(), 226);
        Checks.fetch(ferry, "RETR f", "\u00ff\u0000A");
        dueLine(ferry, "STOR f", 425);
    }

    private static void appending() {
        Client ferry = at("promise 6, APPE");
        Checks.send(ferry, "APPE f", "one", 226);
        Checks.send(ferry, "APPE f", "two\r", 226);
        Checks.send(ferry, "APPE f", "\nend", 226);
        Checks.send(ferry, "APPE f", "", 226);
        dueLine(ferry, "TYPE I", 200);
        Checks.fetch(ferry, "RETR f", "onetwo\r\nend");
        Checks.dueText(ferry, "SIZE f", 213, "11");
        Checks.send(ferry, "APPE f", "123456789012345678901", 226);
        Checks.dueText(ferry, "SIZE f", 213, "32");
        Checks.send(ferry, "APPE f", "1", 452);
        Checks.send(ferry, "APPE f", "", 226);
        Checks.fetch(ferry, "RETR f", "onetwo\r\nend123456789012345678901");
        dueLine(ferry, "TYPE A", 200);
        Checks.send(ferry, "STOR g", "0123456789012345678901234567890\r", 226);
        Checks.send(ferry, "APPE g", "\n", 452);
        Checks.dueText(ferry, "SIZE g", 213, "32");
    }

    private static void storingRefused() {
        Client ferry = at("promise 6, STOR and APPE refused");
        dueLine(ferry, "MKD a", 257);
        Checks.send(ferry, "STOR f", "1", 226);
        Checks.joined(ferry);
        for (String path : new String[] {"a", "/", ".", "a/", "f/", "f/.", "f/x", "no/x", "x/", "x/.", "f/../x", "a/.."}) {
            dueLine(ferry, "STOR " + path, 553);
            dueLine(ferry, "APPE " + path, 553);
        }
        due("transfer()", ferry.transfer(), 0);
        dueLine(ferry, "APPE a/x", 150);
        due("nodes()", ferry.nodes(), 3);
        due("end()", ferry.end(), 226);
        due("nodes()", ferry.nodes(), 4);
        Checks.dueText(ferry, "SIZE a/x", 213, "0");
    }

    private static void limitsOfBytes() {
        Client ferry = at("promise 6, limits of bytes");
        String full = "01234567890123456789012345678901";
        Checks.send(ferry, "STOR a", full + "2", 452);
        due("nodes()", ferry.nodes(), 1);
        Checks.send(ferry, "STOR a", full.substring(1) + "\r\n", 226);
        Checks.dueText(ferry, "SIZE a", 213, "32");
        Checks.send(ferry, "STOR a", full + "2", 452);
        Checks.fetch(ferry, "RETR a", full.substring(1) + "\r\n");
    }

    private static void limitOfAllBytes() {
        Client ferry = at("promise 6, limit of all bytes");
        String full = "01234567890123456789012345678901";
        for (String name : new String[] {"a", "b", "c", "d", "e", "f"}) {
            Checks.send(ferry, "STOR " + name, full, 226);
        }
        due("bytes()", ferry.bytes(), 192);
        Checks.send(ferry, "STOR g", "012345678", 452);
        due("nodes()", ferry.nodes(), 7);
        Checks.send(ferry, "STOR g", "01234567", 226);
        due("bytes()", ferry.bytes(), 200);
        Checks.send(ferry, "APPE g", "8", 452);
        Checks.send(ferry, "STOR g", "012345678", 452);
        Checks.send(ferry, "STOR g", "76543210", 226);
        Checks.send(ferry, "STOR b", full.substring(1), 226);
        due("bytes()", ferry.bytes(), 199);
        Checks.send(ferry, "APPE g", "8", 226);
        Checks.send(ferry, "STOR h", "", 226);
        dueLine(ferry, "RETR g", 425);
        Checks.fetch(ferry, "RETR g", "765432108");
    }

    // Promise 8

    private static void texts() {
        Client ferry = at("promise 8");
        due("text(0) of 230", ferry.text(0), 0);
        dueLine(ferry, "MKD ab", 257);
        due("text(-1)", ferry.text(-1), 0);
        due("text(0)", ferry.text(0), '/');
        due("text(1)", ferry.text(1), 'a');
        due("text(2)", ferry.text(2), 'b');
        due("text(3)", ferry.text(3), 0);
        due("text(200)", ferry.text(200), 0);
        due("text(most)", ferry.text(Integer.MAX_VALUE), 0);
        due("text(least)", ferry.text(Integer.MIN_VALUE), 0);
        dueLine(ferry, "NOOP", 200);
        due("text(0) of 200", ferry.text(0), 0);
        Checks.send(ferry, "STOR f", "1", 226);
        dueLine(ferry, "PWD", 257);
        dueLine(ferry, "PASV", 227);
        ferry.join();
        dueLine(ferry, "RETR f", 150);
        due("text(0) of 150", ferry.text(0), 0);
        ferry.take();
        dueLine(ferry, "PWD", 503);
        due("text(0) of 503", ferry.text(0), 0);
        ferry.take();
        due("reply()", ferry.reply(), 226);
        due("text(0) of 226", ferry.text(0), 0);
        dueLine(ferry, "PWD", 257);
        ferry.type('x');
        ferry.listen(1);
        ferry.open();
        due("text(0) behind other calls", ferry.text(0), '/');
        dueLine(ferry, "x", 500);
        due("text(0) of 500", ferry.text(0), 0);
    }

    // Promise 9

    private static void joining() {
        Client ferry = at("promise 9");
        due("join() without a way", ferry.join(), false);
        dueLine(ferry, "PASV", 227);
        due("join()", ferry.join(), true);
        due("join() twice", ferry.join(), false);
        dueLine(ferry, "PASV", 227);
        due("join() behind a second PASV", ferry.join(), true);
        dueLine(ferry, "NLST", 150);
        due("join() in a transfer", ferry.join(), false);
        due("take()", ferry.take(), -1);
        due("join() behind a transfer", ferry.join(), false);
        dueLine(ferry, "PORT 1,1,1,1,1,1", 200);
        due("join() when calling", ferry.join(), false);
        due("reply()", ferry.reply(), 200);
    }

    // Promise 10

    private static void listening() {
        Client ferry = at("promise 10");
        due("listen(-2)", ferry.listen(-2), false);
        due("listen(65536)", ferry.listen(65536), false);
        due("listen(least)", ferry.listen(Integer.MIN_VALUE), false);
        due("listen(most)", ferry.listen(Integer.MAX_VALUE), false);
        int[] ports = {0, 1, 255, 256, 257, 65535};
        for (int port : ports) {
            String line = "PORT 0,0,0,0," + port / 256 + "," + port % 256;
            due("listen(" + port + ")", ferry.listen(port), true);
            due("listen(70000)", ferry.listen(70000), false);
            dueLine(ferry, line, 200);
            dueLine(ferry, "NLST", 150);
            Checks.dueGiven(ferry, "NLST", "");
            due("listen(-1)", ferry.listen(-1), true);
            dueLine(ferry, line, 200);
            dueLine(ferry, "NLST", 425);
            due("listen(" + (port ^ 1) + ")", ferry.listen(port ^ 1), true);
            dueLine(ferry, line, 200);
            dueLine(ferry, "NLST", 425);
        }
    }

    // Promises 11 to 14

    private static void takingAndGiving() {
        Client ferry = at("promises 11 to 14");
        due("transfer()", ferry.transfer(), 0);
        due("take()", ferry.take(), -1);
        due("give(1)", ferry.give(1), false);
        due("end()", ferry.end(), -1);
        due("reply()", ferry.reply(), 230);
        Checks.joined(ferry);
        dueLine(ferry, "STOR f", 150);
        due("transfer()", ferry.transfer(), 2);
        due("take() when taking", ferry.take(), -1);
        due("transfer()", ferry.transfer(), 2);
        for (int i = 0; i < 80; i++) {
            due("give() " + i, ferry.give(i % 2 == 0 ? 13 : 10), true);
        }
        due("give() when it has 80", ferry.give(1), false);
        due("end() of 40 bytes", ferry.end(), 452);
        due("reply()", ferry.reply(), 452);
        due("transfer()", ferry.transfer(), 0);
        due("the way is NONE", Checks.say(ferry, "STOR f"), 425);
        Checks.joined(ferry);
        dueLine(ferry, "STOR f", 150);
        for (int i = 0; i < 64; i++) {
            due("give() " + i, ferry.give(i % 2 == 0 ? 13 : 10), true);
        }
        due("end() of 32 bytes", ferry.end(), 226);
        due("end() twice", ferry.end(), -1);
        Checks.joined(ferry);
        dueLine(ferry, "RETR f", 150);
        due("transfer()", ferry.transfer(), 1);
        due("give(1) when giving", ferry.give(1), false);
        due("end() when giving", ferry.end(), -1);
        for (int i = 0; i < 64; i++) {
            due("take() " + i, ferry.take(), i % 2 == 0 ? 13 : 10);
        }
        due("transfer() with none left", ferry.transfer(), 1);
        due("reply() with none left", ferry.reply(), 150);
        due("take() with none left", ferry.take(), -1);
        due("transfer()", ferry.transfer(), 0);
        due("reply()", ferry.reply(), 226);
        dueLine(ferry, "NOOP", 200);
        due("take() behind the end", ferry.take(), -1);
        due("reply() is not told again", ferry.reply(), 200);
        dueLine(ferry, "RETR f", 425);
    }

    // Promises 15 and 16

    private static void counting() {
        Checks.topic("promises 15 and 16");
        Client ferry = new Client();
        Checks.account(ferry, "u", "p");
        Checks.account(ferry, "v", "q");
        due("nodes()", ferry.nodes(), 2);
        ferry.open();
        Checks.logIn(ferry, "u", "p");
        Checks.send(ferry, "STOR f", "abc", 226);
        dueLine(ferry, "MKD a", 257);
        due("nodes()", ferry.nodes(), 4);
        Checks.logIn(ferry, "v", "q");
        Checks.send(ferry, "STOR f", "defgh", 226);
        due("nodes()", ferry.nodes(), 5);
        due("bytes()", ferry.bytes(), 8);
        Checks.send(ferry, "STOR f", "d", 226);
        due("bytes()", ferry.bytes(), 4);
        Checks.send(ferry, "APPE f", "ef", 226);
        due("bytes()", ferry.bytes(), 6);
        dueLine(ferry, "RNFR f", 350);
        dueLine(ferry, "RNTO g", 250);
        due("bytes()", ferry.bytes(), 6);
        dueLine(ferry, "DELE g", 250);
        due("nodes()", ferry.nodes(), 4);
        due("bytes()", ferry.bytes(), 3);
        dueLine(ferry, "QUIT", 221);
        due("nodes()", ferry.nodes(), 4);
        due("bytes()", ferry.bytes(), 3);
    }
}
