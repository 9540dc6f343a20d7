/** What the tests share: answers held against what is due, and texts put onto the tape. */
final class Check {
    private static int wrong = 0;
    private static int made = 0;
    // Told ahead of each answer that is not as due.
    private static String about = "";

    private Check() { }

    static void due(String call, long got, long want) {
        made++;
        if (got != want) {
            wrong++;
            System.out.println(about + call + " answered " + got + ", due is " + want);
        }
    }

    static void due(String call, boolean got, boolean want) {
        due(call, got ? 1 : 0, want ? 1 : 0);
    }

    static void same(String what, String got, String want) {
        made++;
        if (!got.equals(want)) {
            wrong++;
            System.out.println(about + what + "\n  is  " + got + "\n  due " + want);
        }
    }

    static void about(String words) {
        about = words;
    }

    static int wrong() {
        return wrong;
    }

    static void end() {
        System.out.println(made + " answers, " + wrong + " not as due");
        if (wrong != 0) {
            System.exit(1);
        }
    }

    /** Feeds a text (characters 0 to 255), takes back what is too much; does not read it. */
    static void feed(MownLawn lawn, String text) {
        String padded = text + " ".repeat((20 - text.length() % 20) % 20);
        for (int at = 0; at < padded.length(); at += 20) {
            lawn.feed(four(padded, at), four(padded, at + 4), four(padded, at + 8), four(padded, at + 12),
                four(padded, at + 16));
        }
        lawn.back(padded.length() - text.length());
    }

    static int four(String text, int at) {
        return text.charAt(at) << 24 | text.charAt(at + 1) << 16 | text.charAt(at + 2) << 8 | text.charAt(at + 3);
    }

    static void fine(String text) {
        MownLawn lawn = new MownLawn();
        feed(lawn, text);
        due("read() of " + text, lawn.read(), 0);
        due("place() of " + text, lawn.place(), -1);
    }

    /** The fault's byte is the one behind '@', which is not of the text. */
    static void fault(int number, String marked) {
        int place = marked.indexOf('@');
        String text = marked.substring(0, place) + marked.substring(place + 1);
        MownLawn lawn = new MownLawn();
        feed(lawn, text);
        due("read() of " + marked, lawn.read(), number);
        due("place() of " + marked, lawn.place(), place);
    }

    static MownLawn lawn(String text) {
        MownLawn lawn = new MownLawn();
        feed(lawn, text);
        due("read() of " + text, lawn.read(), 0);
        return lawn;
    }
}
