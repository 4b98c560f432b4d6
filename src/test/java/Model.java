import java.util.ArrayList;
import java.util.List;
import java.util.Map;
import java.util.TreeMap;

/**
 * The document written a second time, with texts, maps and patterns, so that it shares
 * neither code nor way of thinking with the class that it is held against.
 */
final class Model {
    private static final String NAME = "(?!\\.{1,2}$)[a-z0-9.-]{1,6}";
    private static final String PART = "[a-z0-9.-]{1,6}";
    private static final String PATH = "/|/?" + PART + "(/" + PART + ")*/?";
    private static final String NUMBER = "[0-9]{1,3}";
    private static final Map<String, String> ARGUMENTS = new TreeMap<>();

    static {
        for (String command : "QUIT NOOP PWD CDUP PASV ABOR".split(" ")) {
            ARGUMENTS.put(command, "");
        }
        for (String command : "USER PASS".split(" ")) {
            ARGUMENTS.put(command, NAME);
        }
        for (String command : "CWD MKD RMD DELE SIZE RNFR RNTO RETR STOR APPE".split(" ")) {
            ARGUMENTS.put(command, PATH);
        }
        ARGUMENTS.put("NLST", "|" + PATH);
        ARGUMENTS.put("TYPE", ".+");
        ARGUMENTS.put("REST", NUMBER);
        ARGUMENTS.put("PORT", NUMBER + "(," + NUMBER + "){5}");
    }

    private static final class Thing {
        final TreeMap<String, Thing> inside;
        Thing holder;
        String data = "";

        Thing(Thing holder, boolean directory) {
            this.holder = holder;
            this.inside = directory ? new TreeMap<>() : null;
        }

        boolean isDirectory() {
            return inside != null;
        }

        String name() {
            for (Map.Entry<String, Thing> entry : holder.inside.entrySet()) {
                if (entry.getValue() == this) {
                    return entry.getKey();
                }
            }
            throw new IllegalStateException("nowhere");
        }

        String whole() {
            if (holder == null) {
                return "";
            }
            return holder.whole() + "/" + name();
        }

        int countThings() {
            int count = 1;
            if (isDirectory()) {
                for (Thing thing : inside.values()) {
                    count += thing.countThings();
                }
            }
            return count;
        }

        int countData() {
            int count = data.length();
            if (isDirectory()) {
                for (Thing thing : inside.values()) {
                    count += thing.countData();
                }
            }
            return count;
        }

        boolean isBelow(Thing other) {
            return this == other || holder != null && holder.isBelow(other);
        }
    }

    private final Map<String, String> passwords = new TreeMap<>();
    private final Map<String, Thing> roots = new TreeMap<>();
    private String line = "";
    private boolean open = false;
    private int reply = 0;
    private String text = "";
    private String loggedIn = null;
    private Thing current = null;
    private boolean image = false;
    private String way = "NONE";
    private int port = -1;
    private int listens = -1;

    // what the next line may use, and what this one may
    private int restart = 0;
    private String user = null;
    private Thing renamed = null;
    private int restartNow = 0;
    private String userNow = null;
    private Thing renamedNow = null;

    // the transfer
    private int transfer = 0;
    private List<Integer> data = new ArrayList<>();
    private String target = "";
    private boolean appends = false;

    private static String characters(long word) {
        StringBuilder text = new StringBuilder();
        for (int i = 0; i < 8 && (word >>> 8 * i & 255) != 0; i++) {
            text.append((char) (word >>> 8 * i & 255));
        }
        return text.toString();
    }

    boolean account(long user, long password) {
        String userName = characters(user);
        String passwordName = characters(password);
        if (open || passwords.size() == 4 || nodes() == 24 || passwords.containsKey(userName)
                || !userName.matches(NAME) || !passwordName.matches(NAME)) {
            return false;
        }
        passwords.put(userName, passwordName);
        roots.put(userName, new Thing(null, true));
        return true;
    }

    boolean open() {
        if (open) {
            return false;
        }
        open = true;
        loggedIn = null;
        current = null;
        image = false;
        way = "NONE";
        restart = 0;
        user = null;
        renamed = null;
        reply = 220;
        return true;
    }

    boolean type(char c) {
        if (c < ' ' || c > '~' || line.length() == 32) {
            return false;
        }
        line += c;
        return true;
    }

    int word(long s) {
        int put = 0;
        for (char c : characters(s).toCharArray()) {
            if (!type(c)) {
                break;
            }
            put++;
        }
        return put;
    }

    int enter() {
        String entered = line;
        line = "";
        if (!open) {
            return -1;
        }
        restartNow = restart;
        userNow = user;
        renamedNow = renamed;
        restart = 0;
        user = null;
        renamed = null;
        reply = answer(entered);
        return reply;
    }

    private int answer(String entered) {
        if (!entered.matches("[A-Za-z]+( .+)?")) {
            return 500;
        }
        int space = entered.indexOf(' ');
        String command = (space < 0 ? entered : entered.substring(0, space)).toUpperCase();
        String argument = space < 0 ? "" : entered.substring(space + 1);
        if (!ARGUMENTS.containsKey(command)) {
            return 500;
        }
        if (!argument.matches(ARGUMENTS.get(command)) || command.equals("PORT") && isTooHigh(argument)) {
            return 501;
        }
        if (loggedIn == null && !List.of("USER", "PASS", "QUIT", "NOOP").contains(command)) {
            return 530;
        }
        if (transfer != 0 && !List.of("ABOR", "QUIT", "NOOP").contains(command)) {
            return 503;
        }
        return ARGUMENTS.get(command).endsWith(PATH) ? doWithPath(command, argument) : doPlain(command, argument);
    }

    private static boolean isTooHigh(String argument) {
        for (String number : argument.split(",")) {
            if (Integer.parseInt(number) > 255) {
                return true;
            }
        }
        return false;
    }

    private int doPlain(String command, String argument) {
        switch (command) {
            case "USER":
                loggedIn = null;
                user = argument;
                return 331;
            case "PASS":
                return pass(argument);
            case "QUIT":
                open = false;
                drop();
                return 221;
            case "PWD":
                return tell(current);
            case "CDUP":
                if (current.holder != null) {
                    current = current.holder;
                }
                return 200;
            case "TYPE":
                if (!argument.matches("[AaIi]")) {
                    return 504;
                }
                image = argument.equalsIgnoreCase("I");
                return 200;
            case "REST":
                if (!image) {
                    return 504;
                }
                restart = Integer.parseInt(argument);
                return 350;
            case "PASV":
                way = "WAITING";
                return 227;
            case "PORT":
                way = "CALLING";
                String[] numbers = argument.split(",");
                port = 256 * Integer.parseInt(numbers[4]) + Integer.parseInt(numbers[5]);
                return 200;
            case "ABOR":
                if (transfer == 0) {
                    return 226;
                }
                drop();
                return 426;
            case "NOOP":
                return 200;
            default:
                throw new IllegalStateException(command);
        }
    }

    private int pass(String argument) {
        if (userNow == null) {
            return 503;
        }
        if (!argument.equals(passwords.get(userNow))) {
            loggedIn = null;
            return 530;
        }
        loggedIn = userNow;
        current = roots.get(userNow);
        return 230;
    }

    private int tell(Thing directory) {
        text = directory.holder == null ? "/" : directory.whole();
        return 257;
    }

    /** What a path leads to; null for nothing. */
    private Thing leads(String path) {
        Thing at = path.startsWith("/") ? roots.get(loggedIn) : current;
        String rest = path.startsWith("/") ? path.substring(1) : path;
        if (rest.endsWith("/")) {
            rest += ".";
        }
        for (String part : rest.isEmpty() ? new String[0] : rest.split("/")) {
            if (at == null || !at.isDirectory()) {
                return null;
            }
            if (part.equals("..")) {
                at = at.holder == null ? at : at.holder;
            } else if (!part.equals(".")) {
                at = at.inside.get(part);
            }
        }
        return at;
    }

    private static String lastPart(String path) {
        return path.substring(path.lastIndexOf('/') + 1);
    }

    /** The directory of a path's place; null if it has no place. */
    private Thing placeOf(String path) {
        if (!lastPart(path).matches(NAME)) {
            return null;
        }
        String before = path.substring(0, path.length() - lastPart(path).length());
        Thing directory = before.isEmpty() ? current : leads(before);
        return directory != null && directory.isDirectory() ? directory : null;
    }

    private int doWithPath(String command, String path) {
        Thing thing = leads(path.isEmpty() ? "." : path);
        boolean isDirectory = thing != null && thing.isDirectory();
        boolean isFile = thing != null && !thing.isDirectory();
        switch (command) {
            case "CWD":
                current = isDirectory ? thing : current;
                return isDirectory ? 250 : 550;
            case "MKD":
                if (placeOf(path) == null || thing != null || nodes() == 24) {
                    return 550;
                }
                Thing made = new Thing(placeOf(path), true);
                placeOf(path).inside.put(lastPart(path), made);
                return tell(made);
            case "RMD":
                if (!isDirectory || !thing.inside.isEmpty() || thing.holder == null || thing == current) {
                    return 550;
                }
                thing.holder.inside.remove(thing.name());
                return 250;
            case "DELE":
                if (isFile) {
                    thing.holder.inside.remove(thing.name());
                }
                return isFile ? 250 : 550;
            case "SIZE":
                if (isFile) {
                    text = String.valueOf(thing.data.length());
                }
                return isFile ? 213 : 550;
            case "RNFR":
                if (thing == null || thing.holder == null) {
                    return 550;
                }
                renamed = thing;
                return 350;
            case "RNTO":
                return renameTo(path, thing);
            default:
                return transferTo(command, path, thing);
        }
    }

    private int renameTo(String path, Thing there) {
        if (renamedNow == null) {
            return 503;
        }
        Thing place = placeOf(path);
        if (place == null || there != null || place.isBelow(renamedNow)) {
            return 553;
        }
        renamedNow.holder.inside.remove(renamedNow.name());
        renamedNow.holder = place;
        place.inside.put(lastPart(path), renamedNow);
        return 250;
    }

    private int transferTo(String command, String path, Thing thing) {
        boolean isDirectory = thing != null && thing.isDirectory();
        boolean isFile = thing != null && !isDirectory;
        if (command.equals("RETR") && (!isFile || restartNow > thing.data.length())) {
            return 550;
        }
        if (command.equals("NLST") && !isDirectory) {
            return 550;
        }
        boolean takes = command.equals("STOR") || command.equals("APPE");
        if (takes && (isDirectory || thing == null && placeOf(path) == null)) {
            return 553;
        }
        if (takes && thing == null && nodes() == 24) {
            return 452;
        }
        if (!way.equals("JOINED") && !(way.equals("CALLING") && listens == port)) {
            way = "NONE";
            return 425;
        }
        transfer = takes ? 2 : 1;
        target = path;
        appends = command.equals("APPE");
        String given = "";
        if (command.equals("RETR")) {
            given = thing.data.substring(restartNow);
            given = image ? given : given.replace("\n", "\r\n");
        } else if (command.equals("NLST")) {
            for (String name : thing.inside.keySet()) {
                given += name + "\r\n";
            }
        }
        for (char c : given.toCharArray()) {
            data.add((int) c);
        }
        return 150;
    }

    private void drop() {
        transfer = 0;
        data = new ArrayList<>();
        way = "NONE";
    }

    int reply() {
        return reply;
    }

    char text(int i) {
        boolean has = reply == 257 || reply == 213;
        return has && i >= 0 && i < text.length() ? text.charAt(i) : 0;
    }

    boolean join() {
        if (!way.equals("WAITING")) {
            return false;
        }
        way = "JOINED";
        return true;
    }

    boolean listen(int newPort) {
        if (newPort < -1 || newPort > 65535) {
            return false;
        }
        listens = newPort;
        return true;
    }

    int take() {
        if (transfer != 1) {
            return -1;
        }
        if (data.isEmpty()) {
            drop();
            reply = 226;
            return -1;
        }
        return data.remove(0);
    }

    boolean give(int b) {
        if (transfer != 2 || data.size() == 80) {
            return false;
        }
        data.add(b & 255);
        return true;
    }

    int end() {
        if (transfer != 2) {
            return -1;
        }
        StringBuilder all = new StringBuilder();
        for (int b : data) {
            all.append((char) b);
        }
        String came = image ? all.toString() : all.toString().replace("\r\n", "\n");
        drop();
        Thing file = leads(target);
        String old = file == null ? "" : file.data;
        String whole = appends ? old + came : came;
        reply = 452;
        if (whole.length() <= 32 && bytes() - old.length() + whole.length() <= 200) {
            if (file == null) {
                Thing place = placeOf(target);
                file = new Thing(place, false);
                place.inside.put(lastPart(target), file);
            }
            file.data = whole;
            reply = 226;
        }
        return reply;
    }

    int transfer() {
        return transfer;
    }

    int nodes() {
        int count = 0;
        for (Thing root : roots.values()) {
            count += root.countThings();
        }
        return count;
    }

    int bytes() {
        int count = 0;
        for (Thing root : roots.values()) {
            count += root.countData();
        }
        return count;
    }
}
