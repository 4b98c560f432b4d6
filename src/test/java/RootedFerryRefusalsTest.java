/**
 * "A call that is refused changes nothing (but the line, by enter())": two ferries are brought to the same state,
 * one of them refuses something, and then both have to answer a long row of calls alike. For a refused line
 * the other ferry is told NOOP, as any line uses up what is only there for the very next one.
 */
public final class RootedFerryRefusalsTest {
    private static final int NEW = 0;
    private static final int CLOSED = 1;
    private static final int NOBODY = 2;
    private static final int NO_WAY = 3;
    private static final int WAITING = 4;
    private static final int JOINED = 5;
    private static final int CALLING = 6;
    private static final int GIVING = 7;
    private static final int TAKING = 8;
    private static final int TAKEN_80 = 9;
    private static final int FULL = 10;
    private static final int USER_NAMED = 11;
    private static final int TO_BE_RENAMED = 12;
    private static final int RESTART = 13;
    private static final int LAST = RESTART;

    private static final String[] WRONG_LINES = {
        "500 ", "500 XXX", "500 PWD ", "500  PWD", "501 PWD a", "501 CWD", "501 CWD //", "501 USER .", "501 PASS P",
        "501 QUIT x", "501 ABOR x", "501 NOOP x", "501 REST a", "501 REST 1000", "501 PORT 1,1,1,1,0,256", "501 PASV x",
        "501 RETR", "501 STOR a b", "500 NLST ",
    };
    private static final String[] IDLE_LINES = {
        "503 PASS p", "550 CWD no", "550 CWD /f", "550 CWD /f/", "550 MKD /a", "550 MKD /f", "550 MKD no/x",
        "550 MKD x/", "550 MKD /", "550 RMD /", "550 RMD /a", "550 RMD .", "550 RMD /f", "550 RMD no", "550 DELE /a",
        "550 DELE no", "550 DELE /f/", "550 SIZE no", "550 SIZE /a", "550 RNFR /", "550 RNFR no", "503 RNTO x",
        "504 TYPE X", "504 TYPE AA", "550 RETR no", "550 RETR /a", "550 NLST no", "550 NLST /f", "553 STOR /a",
        "553 STOR no/x", "553 APPE /", "553 APPE x/",
    };
    private static final String[] WITHOUT_LOGIN = {
        "530 PWD", "530 CWD /", "530 CDUP", "530 MKD x", "530 RMD a", "530 DELE f", "530 SIZE f", "530 RNFR f",
        "530 RNTO x", "530 TYPE A", "530 REST 1", "530 PASV", "530 PORT 1,1,1,1,0,9", "530 ABOR", "530 RETR f",
        "530 STOR x", "530 APPE f", "530 NLST",
    };
    private static final String[] IN_TRANSFERS = {
        "503 USER v", "503 PASS p", "503 PWD", "503 CWD /", "503 CDUP", "503 MKD x", "503 RMD /a/b", "503 DELE /f",
        "503 SIZE /f", "503 RNFR /f", "503 RNTO x", "503 TYPE A", "503 REST 1", "503 PASV", "503 PORT 1,1,1,1,0,9",
        "503 RETR /g", "503 STOR /f", "503 APPE /f", "503 NLST",
    };

    public static void main(String[] args) {
        for (int state = NEW; state <= LAST; state++) {
            refusedCalls(state);
            if (state != NEW && state != CLOSED) {
                refusedLines(state, WRONG_LINES);
            }
        }
        for (int state = NO_WAY; state <= CALLING; state++) {
            refusedLines(state, IDLE_LINES);
        }
        for (int state = GIVING; state <= TAKEN_80; state++) {
            refusedLines(state, IN_TRANSFERS);
        }
        refusedLines(NOBODY, WITHOUT_LOGIN);
        refusedLines(NOBODY, "503 PASS p");
        refusedLines(USER_NAMED, WITHOUT_LOGIN);
        refusedLines(USER_NAMED, "530 PASS x", "530 PASS q");
        refusedLines(WAITING, "504 REST 0");
        refusedLines(NO_WAY, "425 RETR /f", "425 STOR x", "425 STOR /f", "425 APPE /f", "425 NLST");
        refusedLines(FULL, "550 MKD x", "452 STOR x", "452 APPE /a/x", "553 STOR /", "550 MKD /a");
        refusedLines(TO_BE_RENAMED, "553 RNTO /a", "553 RNTO /", "553 RNTO no/x", "553 RNTO x/", "553 RNTO /f/x");
        refusedLines(TO_BE_RENAMED, "553 RNTO /a/x", "553 RNTO /a/b/x");
        refusedLines(RESTART, "550 RETR no", "550 RETR /e");
        refusedEnd();
        Checks.finish();
    }

    private static Client in(int state) {
        Client ferry = new Client();
        if (state == NEW) {
            return ferry;
        }
        Checks.account(ferry, "u", "p");
        Checks.account(ferry, "v", "q");
        ferry.listen(9);
        ferry.open();
        Checks.logIn(ferry, "u", "p");
        Checks.dueLine(ferry, "MKD a", 257);
        Checks.dueLine(ferry, "MKD a/b", 257);
        Checks.send(ferry, "STOR f", "12\n4", 226);
        Checks.send(ferry, "STOR e", "", 226);
        Checks.dueLine(ferry, "CWD a", 250);
        if (state != WAITING) {
            Checks.dueLine(ferry, "TYPE I", 200);
        }
        enter(ferry, state);
        return ferry;
    }

    private static void enter(Client ferry, int state) {
        switch (state) {
            case CLOSED:
                Checks.dueLine(ferry, "QUIT", 221);
                break;
            case NOBODY:
                Checks.dueLine(ferry, "USER u", 331);
                Checks.dueLine(ferry, "NOOP", 200);
                break;
            case WAITING:
                Checks.dueLine(ferry, "PASV", 227);
                break;
            case JOINED:
                Checks.joined(ferry);
                break;
            case CALLING:
                Checks.dueLine(ferry, "PORT 1,1,1,1,0,9", 200);
                break;
            case GIVING:
                Checks.joined(ferry);
                Checks.dueLine(ferry, "RETR /f", 150);
                Checks.due("take()", ferry.take(), '1');
                break;
            case TAKING:
            case TAKEN_80:
                Checks.joined(ferry);
                Checks.dueLine(ferry, "STOR /f", 150);
                for (int i = 0; i < (state == TAKING ? 2 : 80); i++) {
                    ferry.give('x');
                }
                break;
            case FULL:
                for (int i = 0; ferry.nodes() < 24; i++) {
                    Checks.dueLine(ferry, "MKD b/" + i, 257);
                }
                break;
            case USER_NAMED:
                Checks.dueLine(ferry, "USER u", 331);
                break;
            case TO_BE_RENAMED:
                Checks.dueLine(ferry, "RNFR /a", 350);
                break;
            case RESTART:
                Checks.joined(ferry);
                Checks.dueLine(ferry, "REST 2", 350);
                break;
            default:
                break;
        }
    }

    /** The line that uses what is only there for the next one. */
    private static String firstLine(int state) {
        switch (state) {
            case USER_NAMED:
                return "PASS p";
            case TO_BE_RENAMED:
                return "RNTO /r";
            case RESTART:
                return "RETR /f";
            default:
                return "PWD";
        }
    }

    private static void refusedCalls(int state) {
        boolean open = state != NEW && state != CLOSED;
        String[] calls = {
            "account of no name", "account of no password", "account of a user", "account", "open", "type 31",
            "type 127", "type 256", "word 0", "word -1", "join", "listen -2", "listen 65536", "take", "give", "end",
        };
        for (String call : calls) {
            boolean isRefused = !(call.equals("account") && !open)
                    && !(call.equals("account of a user") && state == NEW)
                    && !(call.equals("open") && !open)
                    && !(call.equals("join") && state == WAITING)
                    && !(call.equals("take") && state == GIVING)
                    && !(call.equals("give") && state == TAKING)
                    && !(call.equals("end") && (state == TAKING || state == TAKEN_80));
            if (isRefused) {
                refusedCall(state, call);
            }
        }
    }

    private static void refusedCall(int state, String call) {
        Checks.topic("state " + state + ", refused: " + call);
        Client refusing = in(state);
        Client other = in(state);
        refusing.type(firstLine(state).charAt(0));
        other.type(firstLine(state).charAt(0));
        Checks.due("the refused call", make(refusing, call), call.equals("take") || call.equals("end") ? -1 : 0);
        Checks.due("reply()", refusing.reply(), other.reply());
        String rest = firstLine(state).substring(1);
        Checks.due("what is answered then", answers(refusing, rest), answers(other, rest));
    }

    private static int make(Client ferry, String call) {
        switch (call) {
            case "account of no name":
                return Checks.account(ferry, "..", "p") ? 1 : 0;
            case "account of no password":
                return Checks.account(ferry, "w", "abcdefg") ? 1 : 0;
            case "account of a user":
                return Checks.account(ferry, "u", "x") ? 1 : 0;
            case "account":
                return Checks.account(ferry, "w", "p") ? 1 : 0;
            case "open":
                return ferry.open() ? 1 : 0;
            case "type 31":
                return ferry.type((char) 31) ? 1 : 0;
            case "type 127":
                return ferry.type((char) 127) ? 1 : 0;
            case "type 256":
                return ferry.type((char) 256) ? 1 : 0;
            case "word 0":
                return ferry.word(0L);
            case "word -1":
                return ferry.word(-1L);
            case "join":
                return ferry.join() ? 1 : 0;
            case "listen -2":
                return ferry.listen(-2) ? 1 : 0;
            case "listen 65536":
                return ferry.listen(65536) ? 1 : 0;
            case "take":
                return ferry.take();
            case "give":
                return ferry.give(1) ? 1 : 0;
            default:
                return ferry.end();
        }
    }

    /** Each line stands behind the reply that refuses it. */
    private static void refusedLines(int state, String... lines) {
        for (String line : lines) {
            Checks.topic("state " + state + ", refused: " + line);
            Client refusing = in(state);
            Client other = in(state);
            Checks.dueLine(refusing, line.substring(4), Integer.parseInt(line.substring(0, 3)));
            Checks.dueLine(other, "NOOP", 200);
            Checks.due("what is answered then", answers(refusing, firstLine(state)), answers(other, firstLine(state)));
        }
    }

    private static void refusedEnd() {
        Checks.topic("refused: end() of too much");
        Client refusing = in(TAKEN_80);
        Client other = in(TAKEN_80);
        Checks.due("end()", refusing.end(), 452);
        Checks.dueLine(other, "ABOR", 426);
        Checks.due("what is answered then", answers(refusing, "PWD"), answers(other, "PWD"));
    }

    /** What a ferry answers to calls that look at all that it has. */
    private static String answers(Client ferry, String restOfLine) {
        StringBuilder all = new StringBuilder();
        counts(ferry, all);
        line(ferry, restOfLine, all);
        all.append(Checks.text(ferry)).append(' ');
        all.append("account ").append(Checks.account(ferry, "z", "z")).append(' ');
        counts(ferry, all);
        transfer(ferry, all);
        all.append("join ").append(ferry.join()).append(' ');
        line(ferry, "REST 0", all);
        line(ferry, "NLST", all);
        transfer(ferry, all);
        line(ferry, "PORT 1,1,1,1,0,9", all);
        line(ferry, "NLST", all);
        transfer(ferry, all);
        all.append("open ").append(ferry.open()).append(' ');
        for (String login : new String[] {"USER v", "PASS q", "USER u", "PASS p"}) {
            line(ferry, login, all);
        }
        for (String path : new String[] {"NLST /", "NLST /a", "RETR /f", "RETR /e"}) {
            line(ferry, "PORT 1,1,1,1,0,9", all);
            line(ferry, path, all);
            transfer(ferry, all);
        }
        return all.toString();
    }

    private static void counts(Client ferry, StringBuilder all) {
        all.append(ferry.transfer()).append(' ').append(ferry.nodes()).append(' ').append(ferry.bytes()).append(' ');
    }

    private static void line(Client ferry, String line, StringBuilder all) {
        all.append(line).append(' ').append(Checks.say(ferry, line)).append(' ');
    }

    private static void transfer(Client ferry, StringBuilder all) {
        if (ferry.transfer() == 2) {
            all.append("give ").append(ferry.give(1)).append(" end ").append(ferry.end()).append(' ');
        }
        for (int i = 0; i < 200 && ferry.transfer() == 1; i++) {
            all.append(ferry.take()).append(' ');
        }
        all.append(ferry.reply()).append(' ');
    }
}
