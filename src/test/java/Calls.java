/** Calls by name, with numbers alone, so that tables of them can be asked; a boolean counts 1 or 0. */
final class Calls {
    private Calls() { }

    static long ask(RemoteDesk d, String name, int... a) {
        return switch (name) {
            case "offer" -> number(d.offer(a[0], a[1], a[2], a[3], a[4], a[5]));
            case "withdraw" -> number(d.withdraw(a[0], a[1]));
            case "prefer" -> number(d.prefer(a[0], a[1]));
            case "annotate" -> number(d.annotate(a[0], a[1]));
            case "make" -> d.make(a[0], a[1], a[2], a[3]);
            case "put" -> number(d.put(a[0], a[1], a[2], a[3]));
            case "let" -> number(d.let(a[0], a[1], a[2]));
            case "walk" -> number(d.walk(a[0], a[1], a[2]));
            case "bind" -> d.bind(a[0], a[1], a[2]);
            case "unbind" -> number(d.unbind(a[0], a[1]));
            case "retire" -> number(d.retire(a[0], a[1]));
            case "lookup" -> d.lookup(a[0], a[1], a[2], a[3]);
            case "link" -> number(d.link(a[0], a[1], a[2] == 1));
            case "call" -> d.call(a[0], a[1], a[2], a[3], a[4]);
            case "collect" -> d.collect(a[0]);
            case "tick" -> d.tick(a[0]);
            case "look" -> d.look(a[0], a[1], a[2], a[3], a[4]);
            case "digest" -> d.digest(a[0], a[1]);
            case "known" -> d.known(a[0], a[1], a[2], a[3]);
            case "lease" -> d.lease(a[0], a[1], a[2]);
            case "state" -> d.state(a[0], a[1]);
            case "fault" -> d.fault(a[0]);
            default -> throw new IllegalArgumentException(name);
        };
    }

    /** What the call answers when it is refused. */
    static long refusal(String name) {
        return switch (name) {
            case "make", "bind", "lookup", "call", "collect", "tick", "known", "lease", "state", "fault" -> RemoteDesk.BAD;
            case "look", "digest" -> RemoteDesk.NONE;
            default -> 0;
        };
    }

    static String text(String name, int... a) {
        StringBuilder text = new StringBuilder(name + "(");
        for (int i = 0; i < a.length; i++) {
            text.append(i == 0 ? "" : ", ").append(a[i]);
        }
        return text + ")";
    }

    private static long number(boolean answer) {
        return answer ? 1 : 0;
    }
}
