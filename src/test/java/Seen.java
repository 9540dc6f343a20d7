/** All that can be seen of an object by calls that change nothing, as a text. */
final class Seen {
    private Seen() { }

    /** Some 80 calls for a lawn of three by three; place() is left out: a text with a fault changes that. */
    static String of(MownLawn lawn) {
        StringBuilder seen = new StringBuilder("counts");
        for (int what = 0; what < 14; what++) {
            seen.append(' ').append(lawn.count(what));
        }
        for (int y = 0; y < lawn.count(1); y++) {
            for (int x = 0; x < lawn.count(0); x++) {
                seen.append("; cell");
                for (int what = 0; what < 4; what++) {
                    seen.append(' ').append(lawn.cell(x, y, what));
                }
            }
        }
        for (int sign = 0; sign < lawn.count(2); sign++) {
            seen.append("; sign ").append(lawn.sign(sign, 0)).append(' ').append(lawn.sign(sign, 1)).append(' ')
                .append(lawn.sign(sign, 2)).append(' ').append(lawn.best(sign, 0));
        }
        for (int window = 0; window < lawn.count(3); window++) {
            seen.append("; window");
            for (int what = 0; what < 5; what++) {
                seen.append(' ').append(lawn.window(window, what));
            }
        }
        int told = lawn.count(10);
        return seen.append("; blades ").append(lawn.blades(told)).append(' ').append(lawn.ask(told)).toString();
    }
}
