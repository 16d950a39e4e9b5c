public final class FaceTest {
    public static void main(String[] args) {
        if (ZigzagTablets.NONE != -1 || ZigzagTablets.NOTHING != -1000000000000000L) {
            System.out.println("a constant is wrong");
            System.exit(1);
        }
    }
}
