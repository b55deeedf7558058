import java.util.ArrayList;
import java.util.List;
import java.util.Random;

/**
 * A fault is told at the first byte with which no text of the law goes on: what stands ahead of it
 * can be ended to a law, with it nothing can (tried with many ends).
 */
public final class LawFaultsTest extends Due {
    static final List<String> ENDS = ends();

    static List<String> ends() {
        List<String> ends = new ArrayList<>();
        String[] words = {"", " ", "pass v", "ass v", "ss v", "s v", " v", "v", "0", " y", "y", "(v", "(y"};
        for (String word : words) {
            for (int many = 0; many <= 9; many++) {
                String close = ")".repeat(many);
                ends.add(word + close);
                ends.add(word + close + " bind y");
                ends.add(word + close + "bind y");
            }
        }
        for (String rest : new String[] {"ind y", "nd y", "d y", "ind(y)", "nd(y)", "d(y)"}) {
            ends.add(rest);
        }
        return ends;
    }

    static boolean canBeEnded(String text) {
        for (String end : ENDS) {
            if (text.length() + end.length() <= 96 && law(new RoomsDesk(), text + end) > 0) {
                return true;
            }
        }
        return false;
    }

    static void look(String text) {
        int answer = law(new RoomsDesk(), text);
        if (answer > 0) {
            return;
        }
        int place = -100 - answer;
        boolean isRight = place >= 0 && place <= text.length() && canBeEnded(text.substring(0, place));
        if (place < text.length()) {
            isRight &= !canBeEnded(text.substring(0, place + 1));
        }
        due("the fault of '" + text + "' (" + answer + ") is where it is due", isRight ? 1 : 0, 1);
    }

    public static void main(String[] args) {
        sentence("the place (from 0) of the first byte with which no such TEXT goes on; the end, if it comes too soon");
        Random random = new Random(7);
        String[] laws = {"pass v>=75&n>50 bind y=c&!w", "pass(v)bind(y)", " pass !(v - -3) bind 5 ",
            "pass ((((((((v)))))))) bind s|(q&1)", "pass !!!!!!!!!!!!!!!!!!!!v bind -u", "pass t*2<=100 bind y+w<3"};
        String bytes = "  pasbindvntkmycwuq()((!!--+*<=>&|0123456789x\0";
        for (int i = 0; i < 700; i++) {
            String text = laws[random.nextInt(laws.length)];
            for (int changes = random.nextInt(3); changes >= 0; changes--) {
                int at = random.nextInt(text.length() + 1);
                String put = random.nextInt(4) == 0 ? "" : "" + bytes.charAt(random.nextInt(bytes.length()));
                text = text.substring(0, at) + put + text.substring(Math.min(text.length(), at + random.nextInt(2)));
            }
            look(text);
            look(text.substring(0, random.nextInt(text.length() + 1)));
        }
        end("all faults are where they are due");
    }
}
